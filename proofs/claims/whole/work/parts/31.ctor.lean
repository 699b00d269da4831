def x_ad (g : xG) (ad : Nat → Nat) : xG := (g.1, ad, g.2.2)
def ffill : Nat → Nat → Int32
  | 0 => fun _ => 0
  | k + 1 => upd (ffill k) k (-1)
/-- a new object's state -/
def a0 : xT := (fun k => if k = 0 then 7 else if k = 2 then 1 else if k = 11 then -1 else if k = 13 then 1 else if k = 15 then -1 else if k = 20 then -1 else 0, fun k => if k = 4 then ffill 12 else fun _ => 0, fun _ _ => 0, fun _ => 0)
/-- the reference's, before empty() -/
def b0 : xT := (fun k => if k = 0 then 7 else if k = 2 then 1 else if k = 15 then -1 else 0, fun _ _ => 0, fun _ _ => 0, fun _ => 0)
theorem x_vin {i : Int32} {n : Nat} (h : xin i n) : vp_in i n := h
theorem x_cellq {cA : ClassId} {n : Nat} {f f' : Nat → Option Nat} (h : ∀ i, i < n → f i = f' i) : vp_cell cA (n, .inr (.inr (.inr (.inr f)))) = vp_cell cA (n, .inr (.inr (.inr (.inr f')))) := by
  rw [vp_cell_q, vp_cell_q]
  unfold arrV
  congr 1
  congr 1
  funext j
  show va_rf (f j.val) = va_rf (f' j.val)
  rw [h j.val j.isLt]
theorem v_cellq {p : Program} {l : Launch} {e : Env} {Rm : Room} {u : State} {m : MethodId} {args : Array Value} {below : List Frame} {meth : Method} {c : Code} {g : xG} {A : Nat → Prop} {Q : State → Prop} {M : xM} {pc : Nat} {L : List (Option Value)} {S : List Value} {ws ws' : va_W} {nc ns q0 a n : Nat} {cA : ClassId} {f f' : Nat → Option Nat} (he : ws[q0]? = some (a, .inl (cA, n, .inr (.inr (.inr (.inr f)))))) (h : ∀ i, i < n → f i = f' i) (hs : ws.set q0 (a, .inl (cA, n, .inr (.inr (.inr (.inr f'))))) = ws') (k : Rv p l e Rm u m args below meth c g A Q M pc L S ws' nc ns) : Rv p l e Rm u m args below meth c g A Q M pc L S ws nc ns := by
  subst hs
  intro H locs ls hP hD hS hl
  have h1 : va_at (xD g) vwCl (a, .inl (cA, n, .inr (.inr (.inr (.inr f'))))) H := by
    have h2 := hP q0 _ he
    show H[a]? = some (vp_cell cA (n, .inr (.inr (.inr (.inr f')))))
    rw [← x_cellq h]
    exact h2
  exact k H locs ls (hP.set hD he h1 (fun _ _ => rfl)) (hD.set he) hS hl
theorem DX0_init_0 : xd M_X0_init 0 (.aload_n 0) 1 := dX0_init_0
theorem DX0_init_1 : xd M_X0_init 1 (.invokespecial 3) 3 := dX0_init_1
theorem DX0_init_4 : xd M_X0_init 4 (.aload_n 0) 1 := dX0_init_4
theorem DX0_init_5 : xd M_X0_init 5 (.bipush 64) 2 := dX0_init_5
theorem DX0_init_7 : xd M_X0_init 7 (.newarray .int) 2 := dX0_init_7
theorem DX0_init_9 : xd M_X0_init 9 (.putfield 9) 3 := dX0_init_9
theorem DX0_init_12 : xd M_X0_init 12 (.aload_n 0) 1 := dX0_init_12
theorem DX0_init_13 : xd M_X0_init 13 (.bipush 64) 2 := dX0_init_13
theorem DX0_init_15 : xd M_X0_init 15 (.newarray .int) 2 := dX0_init_15
theorem DX0_init_17 : xd M_X0_init 17 (.putfield 15) 3 := dX0_init_17
theorem DX0_init_20 : xd M_X0_init 20 (.aload_n 0) 1 := dX0_init_20
theorem DX0_init_21 : xd M_X0_init 21 (.iconst 3) 1 := dX0_init_21
theorem DX0_init_22 : xd M_X0_init 22 (.newarray .int) 2 := dX0_init_22
theorem DX0_init_24 : xd M_X0_init 24 (.putfield 18) 3 := dX0_init_24
theorem DX0_init_27 : xd M_X0_init 27 (.aload_n 0) 1 := dX0_init_27
theorem DX0_init_28 : xd M_X0_init 28 (.iconst 0) 1 := dX0_init_28
theorem DX0_init_29 : xd M_X0_init 29 (.putfield 21) 3 := dX0_init_29
theorem DX0_init_32 : xd M_X0_init 32 (.aload_n 0) 1 := dX0_init_32
theorem DX0_init_33 : xd M_X0_init 33 (.iconst 0) 1 := dX0_init_33
theorem DX0_init_34 : xd M_X0_init 34 (.putfield 25) 3 := dX0_init_34
theorem DX0_init_37 : xd M_X0_init 37 (.aload_n 0) 1 := dX0_init_37
theorem DX0_init_38 : xd M_X0_init 38 (.iconst 0) 1 := dX0_init_38
theorem DX0_init_39 : xd M_X0_init 39 (.putfield 28) 3 := dX0_init_39
theorem DX0_init_42 : xd M_X0_init 42 (.aload_n 0) 1 := dX0_init_42
theorem DX0_init_43 : xd M_X0_init 43 (.iconst (-1)) 1 := dX0_init_43
theorem DX0_init_44 : xd M_X0_init 44 (.putfield 31) 3 := dX0_init_44
theorem DX0_init_47 : xd M_X0_init 47 (.aload_n 0) 1 := dX0_init_47
theorem DX0_init_48 : xd M_X0_init 48 (.lconst 0) 1 := dX0_init_48
theorem DX0_init_49 : xd M_X0_init 49 (.putfield 34) 3 := dX0_init_49
theorem DX0_init_52 : xd M_X0_init 52 (.return_) 1 := dX0_init_52
theorem CI_X0_init : xCI yX0_init M_X0_init := ⟨x_in 268 (by decide +kernel) rfl, x_in 86 (by decide +kernel) rfl, x_in 269 (by decide +kernel) rfl, rfl, rfl, by decide +kernel⟩
theorem DX1_init_0 : xd M_X1_init 0 (.aload_n 0) 1 := dX1_init_0
theorem DX1_init_1 : xd M_X1_init 1 (.invokespecial 3) 3 := dX1_init_1
theorem DX1_init_4 : xd M_X1_init 4 (.aload_n 0) 1 := dX1_init_4
theorem DX1_init_5 : xd M_X1_init 5 (.bipush 7) 2 := dX1_init_5
theorem DX1_init_7 : xd M_X1_init 7 (.putfield 9) 3 := dX1_init_7
theorem DX1_init_10 : xd M_X1_init 10 (.aload_n 0) 1 := dX1_init_10
theorem DX1_init_11 : xd M_X1_init 11 (.iconst 0) 1 := dX1_init_11
theorem DX1_init_12 : xd M_X1_init 12 (.putfield 15) 3 := dX1_init_12
theorem DX1_init_15 : xd M_X1_init 15 (.aload_n 0) 1 := dX1_init_15
theorem DX1_init_16 : xd M_X1_init 16 (.iconst 1) 1 := dX1_init_16
theorem DX1_init_17 : xd M_X1_init 17 (.putfield 18) 3 := dX1_init_17
theorem DX1_init_20 : xd M_X1_init 20 (.aload_n 0) 1 := dX1_init_20
theorem DX1_init_21 : xd M_X1_init 21 (.iconst 0) 1 := dX1_init_21
theorem DX1_init_22 : xd M_X1_init 22 (.putfield 21) 3 := dX1_init_22
theorem DX1_init_25 : xd M_X1_init 25 (.return_) 1 := dX1_init_25
theorem CI_X1_init : xCI yX1_init M_X1_init := ⟨x_in 107 (by decide +kernel) rfl, x_in 79 (by decide +kernel) rfl, x_in 108 (by decide +kernel) rfl, rfl, rfl, by decide +kernel⟩
theorem DX2_init_0 : xd M_X2_init 0 (.aload_n 0) 1 := dX2_init_0
theorem DX2_init_1 : xd M_X2_init 1 (.invokespecial 5) 3 := dX2_init_1
theorem DX2_init_4 : xd M_X2_init 4 (.aload_n 0) 1 := dX2_init_4
theorem DX2_init_5 : xd M_X2_init 5 (.bipush 32) 2 := dX2_init_5
theorem DX2_init_7 : xd M_X2_init 7 (.newarray .int) 2 := dX2_init_7
theorem DX2_init_9 : xd M_X2_init 9 (.putfield 11) 3 := dX2_init_9
theorem DX2_init_12 : xd M_X2_init 12 (.aload_n 0) 1 := dX2_init_12
theorem DX2_init_13 : xd M_X2_init 13 (.bipush 32) 2 := dX2_init_13
theorem DX2_init_15 : xd M_X2_init 15 (.newarray .long) 2 := dX2_init_15
theorem DX2_init_17 : xd M_X2_init 17 (.putfield 15) 3 := dX2_init_17
theorem DX2_init_20 : xd M_X2_init 20 (.aload_n 0) 1 := dX2_init_20
theorem DX2_init_21 : xd M_X2_init 21 (.bipush 33) 2 := dX2_init_21
theorem DX2_init_23 : xd M_X2_init 23 (.newarray .int) 2 := dX2_init_23
theorem DX2_init_25 : xd M_X2_init 25 (.putfield 19) 3 := dX2_init_25
theorem DX2_init_28 : xd M_X2_init 28 (.aload_n 0) 1 := dX2_init_28
theorem DX2_init_29 : xd M_X2_init 29 (.iconst 0) 1 := dX2_init_29
theorem DX2_init_30 : xd M_X2_init 30 (.putfield 22) 3 := dX2_init_30
theorem DX2_init_33 : xd M_X2_init 33 (.aload_n 0) 1 := dX2_init_33
theorem DX2_init_34 : xd M_X2_init 34 (.iconst (-1)) 1 := dX2_init_34
theorem DX2_init_35 : xd M_X2_init 35 (.putfield 26) 3 := dX2_init_35
theorem DX2_init_38 : xd M_X2_init 38 (.aload_n 0) 1 := dX2_init_38
theorem DX2_init_39 : xd M_X2_init 39 (.iconst 0) 1 := dX2_init_39
theorem DX2_init_40 : xd M_X2_init 40 (.putfield 29) 3 := dX2_init_40
theorem DX2_init_43 : xd M_X2_init 43 (.return_) 1 := dX2_init_43
theorem CI_X2_init : xCI yX2_init M_X2_init := ⟨x_in 241 (by decide +kernel) rfl, x_in 85 (by decide +kernel) rfl, x_in 242 (by decide +kernel) rfl, rfl, rfl, by decide +kernel⟩
theorem DX3_init_0 : xd M_X3_init 0 (.aload_n 0) 1 := dX3_init_0
theorem DX3_init_1 : xd M_X3_init 1 (.invokespecial 3) 3 := dX3_init_1
theorem DX3_init_4 : xd M_X3_init 4 (.aload_n 0) 1 := dX3_init_4
theorem DX3_init_5 : xd M_X3_init 5 (.bipush 64) 2 := dX3_init_5
theorem DX3_init_7 : xd M_X3_init 7 (.newarray .int) 2 := dX3_init_7
theorem DX3_init_9 : xd M_X3_init 9 (.putfield 9) 3 := dX3_init_9
theorem DX3_init_12 : xd M_X3_init 12 (.aload_n 0) 1 := dX3_init_12
theorem DX3_init_13 : xd M_X3_init 13 (.bipush 64) 2 := dX3_init_13
theorem DX3_init_15 : xd M_X3_init 15 (.newarray .long) 2 := dX3_init_15
theorem DX3_init_17 : xd M_X3_init 17 (.putfield 15) 3 := dX3_init_17
theorem DX3_init_20 : xd M_X3_init 20 (.aload_n 0) 1 := dX3_init_20
theorem DX3_init_21 : xd M_X3_init 21 (.iconst 0) 1 := dX3_init_21
theorem DX3_init_22 : xd M_X3_init 22 (.putfield 19) 3 := dX3_init_22
theorem DX3_init_25 : xd M_X3_init 25 (.return_) 1 := dX3_init_25
theorem CI_X3_init : xCI yX3_init M_X3_init := ⟨x_in 131 (by decide +kernel) rfl, x_in 80 (by decide +kernel) rfl, x_in 132 (by decide +kernel) rfl, rfl, rfl, by decide +kernel⟩
theorem DX4_init_0 : xd M_X4_init 0 (.aload_n 0) 1 := dX4_init_0
theorem DX4_init_1 : xd M_X4_init 1 (.invokespecial 3) 3 := dX4_init_1
theorem DX4_init_4 : xd M_X4_init 4 (.aload_n 0) 1 := dX4_init_4
theorem DX4_init_5 : xd M_X4_init 5 (.bipush 12) 2 := dX4_init_5
theorem DX4_init_7 : xd M_X4_init 7 (.newarray .int) 2 := dX4_init_7
theorem DX4_init_9 : xd M_X4_init 9 (.putfield 9) 3 := dX4_init_9
theorem DX4_init_12 : xd M_X4_init 12 (.aload_n 0) 1 := dX4_init_12
theorem DX4_init_13 : xd M_X4_init 13 (.bipush 64) 2 := dX4_init_13
theorem DX4_init_15 : xd M_X4_init 15 (.newarray .long) 2 := dX4_init_15
theorem DX4_init_17 : xd M_X4_init 17 (.putfield 15) 3 := dX4_init_17
theorem DX4_init_20 : xd M_X4_init 20 (.aload_n 0) 1 := dX4_init_20
theorem DX4_init_21 : xd M_X4_init 21 (.iconst 0) 1 := dX4_init_21
theorem DX4_init_22 : xd M_X4_init 22 (.putfield 19) 3 := dX4_init_22
theorem DX4_init_25 : xd M_X4_init 25 (.aload_n 0) 1 := dX4_init_25
theorem DX4_init_26 : xd M_X4_init 26 (.getfield 9) 3 := dX4_init_26
theorem DX4_init_29 : xd M_X4_init 29 (.iconst (-1)) 1 := dX4_init_29
theorem DX4_init_30 : xd M_X4_init 30 (.invokestatic 23) 3 := dX4_init_30
theorem DX4_init_33 : xd M_X4_init 33 (.return_) 1 := dX4_init_33
theorem CI_X4_init : xCI yX4_init M_X4_init := ⟨x_in 153 (by decide +kernel) rfl, x_in 81 (by decide +kernel) rfl, x_in 154 (by decide +kernel) rfl, rfl, rfl, by decide +kernel⟩
theorem DX5_init_0 : xd M_X5_init 0 (.aload_n 0) 1 := dX5_init_0
theorem DX5_init_1 : xd M_X5_init 1 (.invokespecial 3) 3 := dX5_init_1
theorem DX5_init_4 : xd M_X5_init 4 (.aload_n 0) 1 := dX5_init_4
theorem DX5_init_5 : xd M_X5_init 5 (.bipush 120) 2 := dX5_init_5
theorem DX5_init_7 : xd M_X5_init 7 (.newarray .int) 2 := dX5_init_7
theorem DX5_init_9 : xd M_X5_init 9 (.putfield 11) 3 := dX5_init_9
theorem DX5_init_12 : xd M_X5_init 12 (.aload_n 0) 1 := dX5_init_12
theorem DX5_init_13 : xd M_X5_init 13 (.bipush 120) 2 := dX5_init_13
theorem DX5_init_15 : xd M_X5_init 15 (.newarray .int) 2 := dX5_init_15
theorem DX5_init_17 : xd M_X5_init 17 (.putfield 17) 3 := dX5_init_17
theorem DX5_init_20 : xd M_X5_init 20 (.aload_n 0) 1 := dX5_init_20
theorem DX5_init_21 : xd M_X5_init 21 (.bipush 120) 2 := dX5_init_21
theorem DX5_init_23 : xd M_X5_init 23 (.newarray .int) 2 := dX5_init_23
theorem DX5_init_25 : xd M_X5_init 25 (.putfield 20) 3 := dX5_init_25
theorem DX5_init_28 : xd M_X5_init 28 (.aload_n 0) 1 := dX5_init_28
theorem DX5_init_29 : xd M_X5_init 29 (.iconst 0) 1 := dX5_init_29
theorem DX5_init_30 : xd M_X5_init 30 (.putfield 23) 3 := dX5_init_30
theorem DX5_init_33 : xd M_X5_init 33 (.aload_n 0) 1 := dX5_init_33
theorem DX5_init_34 : xd M_X5_init 34 (.iconst 0) 1 := dX5_init_34
theorem DX5_init_35 : xd M_X5_init 35 (.putfield 27) 3 := dX5_init_35
theorem DX5_init_38 : xd M_X5_init 38 (.aload_n 0) 1 := dX5_init_38
theorem DX5_init_39 : xd M_X5_init 39 (.iconst (-1)) 1 := dX5_init_39
theorem DX5_init_40 : xd M_X5_init 40 (.putfield 30) 3 := dX5_init_40
theorem DX5_init_43 : xd M_X5_init 43 (.aload_n 0) 1 := dX5_init_43
theorem DX5_init_44 : xd M_X5_init 44 (.iconst 5) 1 := dX5_init_44
theorem DX5_init_45 : xd M_X5_init 45 (.newarray .boolean) 2 := dX5_init_45
theorem DX5_init_47 : xd M_X5_init 47 (.putfield 33) 3 := dX5_init_47
theorem DX5_init_50 : xd M_X5_init 50 (.aload_n 0) 1 := dX5_init_50
theorem DX5_init_51 : xd M_X5_init 51 (.iconst 5) 1 := dX5_init_51
theorem DX5_init_52 : xd M_X5_init 52 (.newarray .boolean) 2 := dX5_init_52
theorem DX5_init_54 : xd M_X5_init 54 (.putfield 37) 3 := dX5_init_54
theorem DX5_init_57 : xd M_X5_init 57 (.aload_n 0) 1 := dX5_init_57
theorem DX5_init_58 : xd M_X5_init 58 (.iconst 5) 1 := dX5_init_58
theorem DX5_init_59 : xd M_X5_init 59 (.newarray .boolean) 2 := dX5_init_59
theorem DX5_init_61 : xd M_X5_init 61 (.putfield 40) 3 := dX5_init_61
theorem DX5_init_64 : xd M_X5_init 64 (.aload_n 0) 1 := dX5_init_64
theorem DX5_init_65 : xd M_X5_init 65 (.iconst 0) 1 := dX5_init_65
theorem DX5_init_66 : xd M_X5_init 66 (.putfield 43) 3 := dX5_init_66
theorem DX5_init_69 : xd M_X5_init 69 (.aload_n 0) 1 := dX5_init_69
theorem DX5_init_70 : xd M_X5_init 70 (.iconst 1) 1 := dX5_init_70
theorem DX5_init_71 : xd M_X5_init 71 (.putfield 46) 3 := dX5_init_71
theorem DX5_init_74 : xd M_X5_init 74 (.return_) 1 := dX5_init_74
theorem CI_X5_init : xCI yX5_init M_X5_init := ⟨x_in 198 (by decide +kernel) rfl, x_in 84 (by decide +kernel) rfl, x_in 199 (by decide +kernel) rfl, rfl, rfl, by decide +kernel⟩
theorem DX6_init_0 : xd M_X6_init 0 (.aload_n 0) 1 := dX6_init_0
theorem DX6_init_1 : xd M_X6_init 1 (.invokespecial 3) 3 := dX6_init_1
theorem DX6_init_4 : xd M_X6_init 4 (.aload_n 0) 1 := dX6_init_4
theorem DX6_init_5 : xd M_X6_init 5 (.bipush 120) 2 := dX6_init_5
theorem DX6_init_7 : xd M_X6_init 7 (.newarray .int) 2 := dX6_init_7
theorem DX6_init_9 : xd M_X6_init 9 (.putfield 11) 3 := dX6_init_9
theorem DX6_init_12 : xd M_X6_init 12 (.aload_n 0) 1 := dX6_init_12
theorem DX6_init_13 : xd M_X6_init 13 (.iconst 0) 1 := dX6_init_13
theorem DX6_init_14 : xd M_X6_init 14 (.putfield 15) 3 := dX6_init_14
theorem DX6_init_17 : xd M_X6_init 17 (.aload_n 0) 1 := dX6_init_17
theorem DX6_init_18 : xd M_X6_init 18 (.iconst 0) 1 := dX6_init_18
theorem DX6_init_19 : xd M_X6_init 19 (.putfield 19) 3 := dX6_init_19
theorem DX6_init_22 : xd M_X6_init 22 (.aload_n 0) 1 := dX6_init_22
theorem DX6_init_23 : xd M_X6_init 23 (.iconst 0) 1 := dX6_init_23
theorem DX6_init_24 : xd M_X6_init 24 (.putfield 22) 3 := dX6_init_24
theorem DX6_init_27 : xd M_X6_init 27 (.aload_n 0) 1 := dX6_init_27
theorem DX6_init_28 : xd M_X6_init 28 (.iconst 0) 1 := dX6_init_28
theorem DX6_init_29 : xd M_X6_init 29 (.putfield 25) 3 := dX6_init_29
theorem DX6_init_32 : xd M_X6_init 32 (.return_) 1 := dX6_init_32
theorem CI_X6_init : xCI yX6_init M_X6_init := ⟨x_in 173 (by decide +kernel) rfl, x_in 83 (by decide +kernel) rfl, x_in 174 (by decide +kernel) rfl, rfl, rfl, by decide +kernel⟩
theorem DX7_init_0 : xd M_X7_init 0 (.aload_n 0) 1 := dX7_init_0
theorem DX7_init_1 : xd M_X7_init 1 (.invokespecial 3) 3 := dX7_init_1
theorem DX7_init_4 : xd M_X7_init 4 (.aload_n 0) 1 := dX7_init_4
theorem DX7_init_5 : xd M_X7_init 5 (.new 9) 3 := dX7_init_5
theorem DX7_init_8 : xd M_X7_init 8 (.dup) 1 := dX7_init_8
theorem DX7_init_9 : xd M_X7_init 9 (.invokespecial 11) 3 := dX7_init_9
theorem DX7_init_12 : xd M_X7_init 12 (.putfield 12) 3 := dX7_init_12
theorem DX7_init_15 : xd M_X7_init 15 (.aload_n 0) 1 := dX7_init_15
theorem DX7_init_16 : xd M_X7_init 16 (.bipush 6) 2 := dX7_init_16
theorem DX7_init_18 : xd M_X7_init 18 (.anewarray 16) 3 := dX7_init_18
theorem DX7_init_21 : xd M_X7_init 21 (.putfield 18) 3 := dX7_init_21
theorem DX7_init_24 : xd M_X7_init 24 (.aload_n 0) 1 := dX7_init_24
theorem DX7_init_25 : xd M_X7_init 25 (.new 16) 3 := dX7_init_25
theorem DX7_init_28 : xd M_X7_init 28 (.dup) 1 := dX7_init_28
theorem DX7_init_29 : xd M_X7_init 29 (.invokespecial 22) 3 := dX7_init_29
theorem DX7_init_32 : xd M_X7_init 32 (.putfield 23) 3 := dX7_init_32
theorem DX7_init_35 : xd M_X7_init 35 (.aload_n 0) 1 := dX7_init_35
theorem DX7_init_36 : xd M_X7_init 36 (.new 27) 3 := dX7_init_36
theorem DX7_init_39 : xd M_X7_init 39 (.dup) 1 := dX7_init_39
theorem DX7_init_40 : xd M_X7_init 40 (.invokespecial 29) 3 := dX7_init_40
theorem DX7_init_43 : xd M_X7_init 43 (.putfield 30) 3 := dX7_init_43
theorem DX7_init_46 : xd M_X7_init 46 (.aload_n 0) 1 := dX7_init_46
theorem DX7_init_47 : xd M_X7_init 47 (.new 34) 3 := dX7_init_47
theorem DX7_init_50 : xd M_X7_init 50 (.dup) 1 := dX7_init_50
theorem DX7_init_51 : xd M_X7_init 51 (.invokespecial 36) 3 := dX7_init_51
theorem DX7_init_54 : xd M_X7_init 54 (.putfield 37) 3 := dX7_init_54
theorem DX7_init_57 : xd M_X7_init 57 (.aload_n 0) 1 := dX7_init_57
theorem DX7_init_58 : xd M_X7_init 58 (.new 41) 3 := dX7_init_58
theorem DX7_init_61 : xd M_X7_init 61 (.dup) 1 := dX7_init_61
theorem DX7_init_62 : xd M_X7_init 62 (.invokespecial 43) 3 := dX7_init_62
theorem DX7_init_65 : xd M_X7_init 65 (.putfield 44) 3 := dX7_init_65
theorem DX7_init_68 : xd M_X7_init 68 (.aload_n 0) 1 := dX7_init_68
theorem DX7_init_69 : xd M_X7_init 69 (.new 48) 3 := dX7_init_69
theorem DX7_init_72 : xd M_X7_init 72 (.dup) 1 := dX7_init_72
theorem DX7_init_73 : xd M_X7_init 73 (.invokespecial 50) 3 := dX7_init_73
theorem DX7_init_76 : xd M_X7_init 76 (.putfield 51) 3 := dX7_init_76
theorem DX7_init_79 : xd M_X7_init 79 (.aload_n 0) 1 := dX7_init_79
theorem DX7_init_80 : xd M_X7_init 80 (.new 55) 3 := dX7_init_80
theorem DX7_init_83 : xd M_X7_init 83 (.dup) 1 := dX7_init_83
theorem DX7_init_84 : xd M_X7_init 84 (.invokespecial 57) 3 := dX7_init_84
theorem DX7_init_87 : xd M_X7_init 87 (.putfield 58) 3 := dX7_init_87
theorem DX7_init_90 : xd M_X7_init 90 (.iconst 0) 1 := dX7_init_90
theorem DX7_init_91 : xd M_X7_init 91 (.istore_n 1) 1 := dX7_init_91
theorem DX7_init_92 : xd M_X7_init 92 (.iload_n 1) 1 := dX7_init_92
theorem DX7_init_93 : xd M_X7_init 93 (.bipush 6) 2 := dX7_init_93
theorem DX7_init_95 : xd M_X7_init 95 (.if_icmp .ge 22) 3 := dX7_init_95
theorem DX7_init_98 : xd M_X7_init 98 (.aload_n 0) 1 := dX7_init_98
theorem DX7_init_99 : xd M_X7_init 99 (.getfield 18) 3 := dX7_init_99
theorem DX7_init_102 : xd M_X7_init 102 (.iload_n 1) 1 := dX7_init_102
theorem DX7_init_103 : xd M_X7_init 103 (.new 16) 3 := dX7_init_103
theorem DX7_init_106 : xd M_X7_init 106 (.dup) 1 := dX7_init_106
theorem DX7_init_107 : xd M_X7_init 107 (.invokespecial 22) 3 := dX7_init_107
theorem DX7_init_110 : xd M_X7_init 110 (.aastore) 1 := dX7_init_110
theorem DX7_init_111 : xd M_X7_init 111 (.iinc 1 1) 3 := dX7_init_111
theorem DX7_init_114 : xd M_X7_init 114 (.goto (-22)) 3 := dX7_init_114
theorem DX7_init_117 : xd M_X7_init 117 (.return_) 1 := dX7_init_117
theorem CI_X7_init : xCI yX7_init M_X7_init := ⟨x_in 99 (by decide +kernel) rfl, x_in 78 (by decide +kernel) rfl, x_in 100 (by decide +kernel) rfl, rfl, rfl, by decide +kernel⟩
theorem DX8_init_0 : xd M_X8_init 0 (.aload_n 0) 1 := dX8_init_0
theorem DX8_init_1 : xd M_X8_init 1 (.invokespecial 1) 3 := dX8_init_1
theorem DX8_init_4 : xd M_X8_init 4 (.aload_n 0) 1 := dX8_init_4
theorem DX8_init_5 : xd M_X8_init 5 (.bipush 7) 2 := dX8_init_5
theorem DX8_init_7 : xd M_X8_init 7 (.putfield 7) 3 := dX8_init_7
theorem DX8_init_10 : xd M_X8_init 10 (.aload_n 0) 1 := dX8_init_10
theorem DX8_init_11 : xd M_X8_init 11 (.iconst 1) 1 := dX8_init_11
theorem DX8_init_12 : xd M_X8_init 12 (.putfield 13) 3 := dX8_init_12
theorem DX8_init_15 : xd M_X8_init 15 (.aload_n 0) 1 := dX8_init_15
theorem DX8_init_16 : xd M_X8_init 16 (.bipush 6) 2 := dX8_init_16
theorem DX8_init_18 : xd M_X8_init 18 (.newarray .int) 2 := dX8_init_18
theorem DX8_init_20 : xd M_X8_init 20 (.putfield 16) 3 := dX8_init_20
theorem DX8_init_23 : xd M_X8_init 23 (.aload_n 0) 1 := dX8_init_23
theorem DX8_init_24 : xd M_X8_init 24 (.sipush 384) 3 := dX8_init_24
theorem DX8_init_27 : xd M_X8_init 27 (.newarray .int) 2 := dX8_init_27
theorem DX8_init_29 : xd M_X8_init 29 (.putfield 20) 3 := dX8_init_29
theorem DX8_init_32 : xd M_X8_init 32 (.aload_n 0) 1 := dX8_init_32
theorem DX8_init_33 : xd M_X8_init 33 (.bipush 34) 2 := dX8_init_33
theorem DX8_init_35 : xd M_X8_init 35 (.newarray .int) 2 := dX8_init_35
theorem DX8_init_37 : xd M_X8_init 37 (.putfield 23) 3 := dX8_init_37
theorem DX8_init_40 : xd M_X8_init 40 (.aload_n 0) 1 := dX8_init_40
theorem DX8_init_41 : xd M_X8_init 41 (.bipush 34) 2 := dX8_init_41
theorem DX8_init_43 : xd M_X8_init 43 (.newarray .int) 2 := dX8_init_43
theorem DX8_init_45 : xd M_X8_init 45 (.putfield 26) 3 := dX8_init_45
theorem DX8_init_48 : xd M_X8_init 48 (.aload_n 0) 1 := dX8_init_48
theorem DX8_init_49 : xd M_X8_init 49 (.bipush 34) 2 := dX8_init_49
theorem DX8_init_51 : xd M_X8_init 51 (.newarray .int) 2 := dX8_init_51
theorem DX8_init_53 : xd M_X8_init 53 (.putfield 29) 3 := dX8_init_53
theorem DX8_init_56 : xd M_X8_init 56 (.aload_n 0) 1 := dX8_init_56
theorem DX8_init_57 : xd M_X8_init 57 (.bipush 32) 2 := dX8_init_57
theorem DX8_init_59 : xd M_X8_init 59 (.newarray .int) 2 := dX8_init_59
theorem DX8_init_61 : xd M_X8_init 61 (.putfield 32) 3 := dX8_init_61
theorem DX8_init_64 : xd M_X8_init 64 (.aload_n 0) 1 := dX8_init_64
theorem DX8_init_65 : xd M_X8_init 65 (.sipush 4096) 3 := dX8_init_65
theorem DX8_init_68 : xd M_X8_init 68 (.newarray .int) 2 := dX8_init_68
theorem DX8_init_70 : xd M_X8_init 70 (.putfield 35) 3 := dX8_init_70
theorem DX8_init_73 : xd M_X8_init 73 (.aload_n 0) 1 := dX8_init_73
theorem DX8_init_74 : xd M_X8_init 74 (.bipush 120) 2 := dX8_init_74
theorem DX8_init_76 : xd M_X8_init 76 (.newarray .int) 2 := dX8_init_76
theorem DX8_init_78 : xd M_X8_init 78 (.putfield 38) 3 := dX8_init_78
theorem DX8_init_81 : xd M_X8_init 81 (.aload_n 0) 1 := dX8_init_81
theorem DX8_init_82 : xd M_X8_init 82 (.iconst (-1)) 1 := dX8_init_82
theorem DX8_init_83 : xd M_X8_init 83 (.putfield 41) 3 := dX8_init_83
theorem DX8_init_86 : xd M_X8_init 86 (.aload_n 0) 1 := dX8_init_86
theorem DX8_init_87 : xd M_X8_init 87 (.sipush 130) 3 := dX8_init_87
theorem DX8_init_90 : xd M_X8_init 90 (.newarray .int) 2 := dX8_init_90
theorem DX8_init_92 : xd M_X8_init 92 (.putfield 44) 3 := dX8_init_92
theorem DX8_init_95 : xd M_X8_init 95 (.aload_n 0) 1 := dX8_init_95
theorem DX8_init_96 : xd M_X8_init 96 (.sipush 130) 3 := dX8_init_96
theorem DX8_init_99 : xd M_X8_init 99 (.newarray .int) 2 := dX8_init_99
theorem DX8_init_101 : xd M_X8_init 101 (.putfield 47) 3 := dX8_init_101
theorem DX8_init_104 : xd M_X8_init 104 (.aload_n 0) 1 := dX8_init_104
theorem DX8_init_105 : xd M_X8_init 105 (.sipush 130) 3 := dX8_init_105
theorem DX8_init_108 : xd M_X8_init 108 (.newarray .int) 2 := dX8_init_108
theorem DX8_init_110 : xd M_X8_init 110 (.putfield 50) 3 := dX8_init_110
theorem DX8_init_113 : xd M_X8_init 113 (.aload_n 0) 1 := dX8_init_113
theorem DX8_init_114 : xd M_X8_init 114 (.sipush 130) 3 := dX8_init_114
theorem DX8_init_117 : xd M_X8_init 117 (.newarray .boolean) 2 := dX8_init_117
theorem DX8_init_119 : xd M_X8_init 119 (.putfield 53) 3 := dX8_init_119
theorem DX8_init_122 : xd M_X8_init 122 (.aload_n 0) 1 := dX8_init_122
theorem DX8_init_123 : xd M_X8_init 123 (.bipush 12) 2 := dX8_init_123
theorem DX8_init_125 : xd M_X8_init 125 (.newarray .int) 2 := dX8_init_125
theorem DX8_init_127 : xd M_X8_init 127 (.putfield 57) 3 := dX8_init_127
theorem DX8_init_130 : xd M_X8_init 130 (.aload_n 0) 1 := dX8_init_130
theorem DX8_init_131 : xd M_X8_init 131 (.bipush 64) 2 := dX8_init_131
theorem DX8_init_133 : xd M_X8_init 133 (.newarray .long) 2 := dX8_init_133
theorem DX8_init_135 : xd M_X8_init 135 (.putfield 60) 3 := dX8_init_135
theorem DX8_init_138 : xd M_X8_init 138 (.aload_n 0) 1 := dX8_init_138
theorem DX8_init_139 : xd M_X8_init 139 (.iconst 3) 1 := dX8_init_139
theorem DX8_init_140 : xd M_X8_init 140 (.newarray .int) 2 := dX8_init_140
theorem DX8_init_142 : xd M_X8_init 142 (.putfield 64) 3 := dX8_init_142
theorem DX8_init_145 : xd M_X8_init 145 (.aload_n 0) 1 := dX8_init_145
theorem DX8_init_146 : xd M_X8_init 146 (.invokevirtual 67) 3 := dX8_init_146
theorem DX8_init_149 : xd M_X8_init 149 (.return_) 1 := dX8_init_149
theorem CI_X8_init : xCI yX8_init M_X8_init := ⟨x_in 896 (by decide +kernel) rfl, x_in 87 (by decide +kernel) rfl, x_in 897 (by decide +kernel) rfl, rfl, rfl, by decide +kernel⟩
theorem OI_1 : Cond.instanceMethod objectInit ∈ xtb := x_in 102 (by decide +kernel) rfl
theorem OI_2 : Cond.code objectInit ⟨#[0xb1]⟩ 1 none ∈ xtb := x_in 103 (by decide +kernel) rfl
theorem AC_int : Cond.arrayClass .int ∈ xtb := x_in 148 (by decide +kernel) rfl
theorem AC_long : Cond.arrayClass .long ∈ xtb := x_in 149 (by decide +kernel) rfl
theorem AC_boolean : Cond.arrayClass .boolean ∈ xtb := x_in 237 (by decide +kernel) rfl
theorem OL_X1_3 : Cond.methodLink RX1 3 objectInit ∈ xtb := x_in 109 (by decide +kernel) rfl
theorem G_X1_9 : xF RX1 9 1 0 := ⟨RX1, TX1, 4, tyX1, rfl, by decide, x_in 110 (by decide +kernel) rfl, i_X1, tyX1_ok, nmX1⟩
theorem Fq_1_0 : xFp 1 0 .int := fun C T N hC => by
  have h2 : (RX1, TX1, 4) = (C, T, N) := Option.some.inj hC
  cases h2
  exact ⟨rfl, by decide +kernel⟩
theorem G_X1_15 : xF RX1 15 1 1 := ⟨RX1, TX1, 4, tyX1, rfl, by decide, x_in 112 (by decide +kernel) rfl, i_X1, tyX1_ok, nmX1⟩
theorem Fq_1_1 : xFp 1 1 .int := fun C T N hC => by
  have h2 : (RX1, TX1, 4) = (C, T, N) := Option.some.inj hC
  cases h2
  exact ⟨rfl, by decide +kernel⟩
theorem G_X1_18 : xF RX1 18 1 2 := ⟨RX1, TX1, 4, tyX1, rfl, by decide, x_in 114 (by decide +kernel) rfl, i_X1, tyX1_ok, nmX1⟩
theorem Fq_1_2 : xFp 1 2 .int := fun C T N hC => by
  have h2 : (RX1, TX1, 4) = (C, T, N) := Option.some.inj hC
  cases h2
  exact ⟨rfl, by decide +kernel⟩
theorem G_X1_21 : xF RX1 21 1 3 := ⟨RX1, TX1, 4, tyX1, rfl, by decide, x_in 116 (by decide +kernel) rfl, i_X1, tyX1_ok, nmX1⟩
theorem Fq_1_3 : xFp 1 3 .int := fun C T N hC => by
  have h2 : (RX1, TX1, 4) = (C, T, N) := Option.some.inj hC
  cases h2
  exact ⟨rfl, by decide +kernel⟩
theorem OL_X3_3 : Cond.methodLink RX3 3 objectInit ∈ xtb := x_in 133 (by decide +kernel) rfl
theorem G_X3_9 : xF RX3 9 3 0 := ⟨RX3, TX3, 3, tyX3, rfl, by decide, x_in 134 (by decide +kernel) rfl, i_X3, tyX3_ok, nmX3⟩
theorem Ff_3_0 : xFf 3 0 (.array .int) RX3 := fun C T N hC => by
  have h2 : (RX3, TX3, 3) = (C, T, N) := Option.some.inj hC
  cases h2
  exact ⟨rfl, by decide +kernel, rfl⟩
theorem G_X3_15 : xF RX3 15 3 1 := ⟨RX3, TX3, 3, tyX3, rfl, by decide, x_in 137 (by decide +kernel) rfl, i_X3, tyX3_ok, nmX3⟩
theorem Ff_3_1 : xFf 3 1 (.array .long) RX3 := fun C T N hC => by
  have h2 : (RX3, TX3, 3) = (C, T, N) := Option.some.inj hC
  cases h2
  exact ⟨rfl, by decide +kernel, rfl⟩
theorem G_X3_19 : xF RX3 19 3 2 := ⟨RX3, TX3, 3, tyX3, rfl, by decide, x_in 138 (by decide +kernel) rfl, i_X3, tyX3_ok, nmX3⟩
theorem Fq_3_2 : xFp 3 2 .int := fun C T N hC => by
  have h2 : (RX3, TX3, 3) = (C, T, N) := Option.some.inj hC
  cases h2
  exact ⟨rfl, by decide +kernel⟩
theorem OL_X4_3 : Cond.methodLink RX4 3 objectInit ∈ xtb := x_in 155 (by decide +kernel) rfl
theorem G_X4_9 : xF RX4 9 4 0 := ⟨RX4, TX4, 3, tyX4, rfl, by decide, x_in 159 (by decide +kernel) rfl, i_X4, tyX4_ok, nmX4⟩
theorem Ff_4_0 : xFf 4 0 (.array .int) RX4 := fun C T N hC => by
  have h2 : (RX4, TX4, 3) = (C, T, N) := Option.some.inj hC
  cases h2
  exact ⟨rfl, by decide +kernel, rfl⟩
theorem G_X4_15 : xF RX4 15 4 1 := ⟨RX4, TX4, 3, tyX4, rfl, by decide, x_in 161 (by decide +kernel) rfl, i_X4, tyX4_ok, nmX4⟩
theorem Ff_4_1 : xFf 4 1 (.array .long) RX4 := fun C T N hC => by
  have h2 : (RX4, TX4, 3) = (C, T, N) := Option.some.inj hC
  cases h2
  exact ⟨rfl, by decide +kernel, rfl⟩
theorem G_X4_19 : xF RX4 19 4 2 := ⟨RX4, TX4, 3, tyX4, rfl, by decide, x_in 162 (by decide +kernel) rfl, i_X4, tyX4_ok, nmX4⟩
theorem Fq_4_2 : xFp 4 2 .int := fun C T N hC => by
  have h2 : (RX4, TX4, 3) = (C, T, N) := Option.some.inj hC
  cases h2
  exact ⟨rfl, by decide +kernel⟩
theorem OL_X6_3 : Cond.methodLink RX6 3 objectInit ∈ xtb := x_in 175 (by decide +kernel) rfl
theorem G_X6_11 : xF RX6 11 6 0 := ⟨RX6, TX6, 5, tyX6, rfl, by decide, x_in 176 (by decide +kernel) rfl, i_X6, tyX6_ok, nmX6⟩
theorem Ff_6_0 : xFf 6 0 (.array .int) RX6 := fun C T N hC => by
  have h2 : (RX6, TX6, 5) = (C, T, N) := Option.some.inj hC
  cases h2
  exact ⟨rfl, by decide +kernel, rfl⟩
theorem G_X6_15 : xF RX6 15 6 1 := ⟨RX6, TX6, 5, tyX6, rfl, by decide, x_in 177 (by decide +kernel) rfl, i_X6, tyX6_ok, nmX6⟩
theorem Fq_6_1 : xFp 6 1 .int := fun C T N hC => by
  have h2 : (RX6, TX6, 5) = (C, T, N) := Option.some.inj hC
  cases h2
  exact ⟨rfl, by decide +kernel⟩
theorem G_X6_19 : xF RX6 19 6 2 := ⟨RX6, TX6, 5, tyX6, rfl, by decide, x_in 179 (by decide +kernel) rfl, i_X6, tyX6_ok, nmX6⟩
theorem Fq_6_2 : xFp 6 2 .int := fun C T N hC => by
  have h2 : (RX6, TX6, 5) = (C, T, N) := Option.some.inj hC
  cases h2
  exact ⟨rfl, by decide +kernel⟩
theorem G_X6_22 : xF RX6 22 6 3 := ⟨RX6, TX6, 5, tyX6, rfl, by decide, x_in 181 (by decide +kernel) rfl, i_X6, tyX6_ok, nmX6⟩
theorem Fq_6_3 : xFp 6 3 .int := fun C T N hC => by
  have h2 : (RX6, TX6, 5) = (C, T, N) := Option.some.inj hC
  cases h2
  exact ⟨rfl, by decide +kernel⟩
theorem G_X6_25 : xF RX6 25 6 4 := ⟨RX6, TX6, 5, tyX6, rfl, by decide, x_in 183 (by decide +kernel) rfl, i_X6, tyX6_ok, nmX6⟩
theorem Fq_6_4 : xFp 6 4 .int := fun C T N hC => by
  have h2 : (RX6, TX6, 5) = (C, T, N) := Option.some.inj hC
  cases h2
  exact ⟨rfl, by decide +kernel⟩
theorem OL_X5_3 : Cond.methodLink RX5 3 objectInit ∈ xtb := x_in 200 (by decide +kernel) rfl
theorem G_X5_11 : xF RX5 11 5 0 := ⟨RX5, TX5, 11, tyX5, rfl, by decide, x_in 201 (by decide +kernel) rfl, i_X5, tyX5_ok, nmX5⟩
theorem Ff_5_0 : xFf 5 0 (.array .int) RX5 := fun C T N hC => by
  have h2 : (RX5, TX5, 11) = (C, T, N) := Option.some.inj hC
  cases h2
  exact ⟨rfl, by decide +kernel, rfl⟩
theorem G_X5_17 : xF RX5 17 5 1 := ⟨RX5, TX5, 11, tyX5, rfl, by decide, x_in 202 (by decide +kernel) rfl, i_X5, tyX5_ok, nmX5⟩
theorem Ff_5_1 : xFf 5 1 (.array .int) RX5 := fun C T N hC => by
  have h2 : (RX5, TX5, 11) = (C, T, N) := Option.some.inj hC
  cases h2
  exact ⟨rfl, by decide +kernel, rfl⟩
theorem G_X5_20 : xF RX5 20 5 2 := ⟨RX5, TX5, 11, tyX5, rfl, by decide, x_in 203 (by decide +kernel) rfl, i_X5, tyX5_ok, nmX5⟩
theorem Ff_5_2 : xFf 5 2 (.array .int) RX5 := fun C T N hC => by
  have h2 : (RX5, TX5, 11) = (C, T, N) := Option.some.inj hC
  cases h2
  exact ⟨rfl, by decide +kernel, rfl⟩
theorem G_X5_23 : xF RX5 23 5 3 := ⟨RX5, TX5, 11, tyX5, rfl, by decide, x_in 204 (by decide +kernel) rfl, i_X5, tyX5_ok, nmX5⟩
theorem Fq_5_3 : xFp 5 3 .int := fun C T N hC => by
  have h2 : (RX5, TX5, 11) = (C, T, N) := Option.some.inj hC
  cases h2
  exact ⟨rfl, by decide +kernel⟩
theorem G_X5_27 : xF RX5 27 5 4 := ⟨RX5, TX5, 11, tyX5, rfl, by decide, x_in 205 (by decide +kernel) rfl, i_X5, tyX5_ok, nmX5⟩
theorem Fq_5_4 : xFp 5 4 .int := fun C T N hC => by
  have h2 : (RX5, TX5, 11) = (C, T, N) := Option.some.inj hC
  cases h2
  exact ⟨rfl, by decide +kernel⟩
theorem G_X5_30 : xF RX5 30 5 5 := ⟨RX5, TX5, 11, tyX5, rfl, by decide, x_in 207 (by decide +kernel) rfl, i_X5, tyX5_ok, nmX5⟩
theorem Fq_5_5 : xFp 5 5 .int := fun C T N hC => by
  have h2 : (RX5, TX5, 11) = (C, T, N) := Option.some.inj hC
  cases h2
  exact ⟨rfl, by decide +kernel⟩
theorem G_X5_33 : xF RX5 33 5 6 := ⟨RX5, TX5, 11, tyX5, rfl, by decide, x_in 209 (by decide +kernel) rfl, i_X5, tyX5_ok, nmX5⟩
theorem Ff_5_6 : xFf 5 6 (.array .boolean) RX5 := fun C T N hC => by
  have h2 : (RX5, TX5, 11) = (C, T, N) := Option.some.inj hC
  cases h2
  exact ⟨rfl, by decide +kernel, rfl⟩
theorem G_X5_37 : xF RX5 37 5 7 := ⟨RX5, TX5, 11, tyX5, rfl, by decide, x_in 210 (by decide +kernel) rfl, i_X5, tyX5_ok, nmX5⟩
theorem Ff_5_7 : xFf 5 7 (.array .boolean) RX5 := fun C T N hC => by
  have h2 : (RX5, TX5, 11) = (C, T, N) := Option.some.inj hC
  cases h2
  exact ⟨rfl, by decide +kernel, rfl⟩
theorem G_X5_40 : xF RX5 40 5 8 := ⟨RX5, TX5, 11, tyX5, rfl, by decide, x_in 211 (by decide +kernel) rfl, i_X5, tyX5_ok, nmX5⟩
theorem Ff_5_8 : xFf 5 8 (.array .boolean) RX5 := fun C T N hC => by
  have h2 : (RX5, TX5, 11) = (C, T, N) := Option.some.inj hC
  cases h2
  exact ⟨rfl, by decide +kernel, rfl⟩
theorem G_X5_43 : xF RX5 43 5 9 := ⟨RX5, TX5, 11, tyX5, rfl, by decide, x_in 212 (by decide +kernel) rfl, i_X5, tyX5_ok, nmX5⟩
theorem Fq_5_9 : xFp 5 9 .int := fun C T N hC => by
  have h2 : (RX5, TX5, 11) = (C, T, N) := Option.some.inj hC
  cases h2
  exact ⟨rfl, by decide +kernel⟩
theorem G_X5_46 : xF RX5 46 5 10 := ⟨RX5, TX5, 11, tyX5, rfl, by decide, x_in 213 (by decide +kernel) rfl, i_X5, tyX5_ok, nmX5⟩
theorem Fq_5_10 : xFp 5 10 .boolean := fun C T N hC => by
  have h2 : (RX5, TX5, 11) = (C, T, N) := Option.some.inj hC
  cases h2
  exact ⟨rfl, by decide +kernel⟩
theorem OL_X2_5 : Cond.methodLink RX2 5 objectInit ∈ xtb := x_in 243 (by decide +kernel) rfl
theorem G_X2_11 : xF RX2 11 2 0 := ⟨RX2, TX2, 6, tyX2, rfl, by decide, x_in 244 (by decide +kernel) rfl, i_X2, tyX2_ok, nmX2⟩
theorem Ff_2_0 : xFf 2 0 (.array .int) RX2 := fun C T N hC => by
  have h2 : (RX2, TX2, 6) = (C, T, N) := Option.some.inj hC
  cases h2
  exact ⟨rfl, by decide +kernel, rfl⟩
theorem G_X2_15 : xF RX2 15 2 1 := ⟨RX2, TX2, 6, tyX2, rfl, by decide, x_in 246 (by decide +kernel) rfl, i_X2, tyX2_ok, nmX2⟩
theorem Ff_2_1 : xFf 2 1 (.array .long) RX2 := fun C T N hC => by
  have h2 : (RX2, TX2, 6) = (C, T, N) := Option.some.inj hC
  cases h2
  exact ⟨rfl, by decide +kernel, rfl⟩
theorem G_X2_19 : xF RX2 19 2 2 := ⟨RX2, TX2, 6, tyX2, rfl, by decide, x_in 247 (by decide +kernel) rfl, i_X2, tyX2_ok, nmX2⟩
theorem Ff_2_2 : xFf 2 2 (.array .int) RX2 := fun C T N hC => by
  have h2 : (RX2, TX2, 6) = (C, T, N) := Option.some.inj hC
  cases h2
  exact ⟨rfl, by decide +kernel, rfl⟩
theorem G_X2_22 : xF RX2 22 2 3 := ⟨RX2, TX2, 6, tyX2, rfl, by decide, x_in 248 (by decide +kernel) rfl, i_X2, tyX2_ok, nmX2⟩
theorem Fq_2_3 : xFp 2 3 .int := fun C T N hC => by
  have h2 : (RX2, TX2, 6) = (C, T, N) := Option.some.inj hC
  cases h2
  exact ⟨rfl, by decide +kernel⟩
theorem G_X2_26 : xF RX2 26 2 4 := ⟨RX2, TX2, 6, tyX2, rfl, by decide, x_in 250 (by decide +kernel) rfl, i_X2, tyX2_ok, nmX2⟩
theorem Fq_2_4 : xFp 2 4 .int := fun C T N hC => by
  have h2 : (RX2, TX2, 6) = (C, T, N) := Option.some.inj hC
  cases h2
  exact ⟨rfl, by decide +kernel⟩
theorem G_X2_29 : xF RX2 29 2 5 := ⟨RX2, TX2, 6, tyX2, rfl, by decide, x_in 251 (by decide +kernel) rfl, i_X2, tyX2_ok, nmX2⟩
theorem Fq_2_5 : xFp 2 5 .boolean := fun C T N hC => by
  have h2 : (RX2, TX2, 6) = (C, T, N) := Option.some.inj hC
  cases h2
  exact ⟨rfl, by decide +kernel⟩
theorem OL_X0_3 : Cond.methodLink RX0 3 objectInit ∈ xtb := x_in 270 (by decide +kernel) rfl
theorem G_X0_9 : xF RX0 9 0 0 := ⟨RX0, TX0, 8, tyX0, rfl, by decide, x_in 271 (by decide +kernel) rfl, i_X0, tyX0_ok, nmX0⟩
theorem Ff_0_0 : xFf 0 0 (.array .int) RX0 := fun C T N hC => by
  have h2 : (RX0, TX0, 8) = (C, T, N) := Option.some.inj hC
  cases h2
  exact ⟨rfl, by decide +kernel, rfl⟩
theorem G_X0_15 : xF RX0 15 0 1 := ⟨RX0, TX0, 8, tyX0, rfl, by decide, x_in 272 (by decide +kernel) rfl, i_X0, tyX0_ok, nmX0⟩
theorem Ff_0_1 : xFf 0 1 (.array .int) RX0 := fun C T N hC => by
  have h2 : (RX0, TX0, 8) = (C, T, N) := Option.some.inj hC
  cases h2
  exact ⟨rfl, by decide +kernel, rfl⟩
theorem G_X0_18 : xF RX0 18 0 2 := ⟨RX0, TX0, 8, tyX0, rfl, by decide, x_in 273 (by decide +kernel) rfl, i_X0, tyX0_ok, nmX0⟩
theorem Ff_0_2 : xFf 0 2 (.array .int) RX0 := fun C T N hC => by
  have h2 : (RX0, TX0, 8) = (C, T, N) := Option.some.inj hC
  cases h2
  exact ⟨rfl, by decide +kernel, rfl⟩
theorem G_X0_21 : xF RX0 21 0 3 := ⟨RX0, TX0, 8, tyX0, rfl, by decide, x_in 274 (by decide +kernel) rfl, i_X0, tyX0_ok, nmX0⟩
theorem Fq_0_3 : xFp 0 3 .int := fun C T N hC => by
  have h2 : (RX0, TX0, 8) = (C, T, N) := Option.some.inj hC
  cases h2
  exact ⟨rfl, by decide +kernel⟩
theorem G_X0_25 : xF RX0 25 0 4 := ⟨RX0, TX0, 8, tyX0, rfl, by decide, x_in 275 (by decide +kernel) rfl, i_X0, tyX0_ok, nmX0⟩
theorem Fq_0_4 : xFp 0 4 .int := fun C T N hC => by
  have h2 : (RX0, TX0, 8) = (C, T, N) := Option.some.inj hC
  cases h2
  exact ⟨rfl, by decide +kernel⟩
theorem G_X0_28 : xF RX0 28 0 5 := ⟨RX0, TX0, 8, tyX0, rfl, by decide, x_in 276 (by decide +kernel) rfl, i_X0, tyX0_ok, nmX0⟩
theorem Fq_0_5 : xFp 0 5 .int := fun C T N hC => by
  have h2 : (RX0, TX0, 8) = (C, T, N) := Option.some.inj hC
  cases h2
  exact ⟨rfl, by decide +kernel⟩
theorem G_X0_31 : xF RX0 31 0 6 := ⟨RX0, TX0, 8, tyX0, rfl, by decide, x_in 278 (by decide +kernel) rfl, i_X0, tyX0_ok, nmX0⟩
theorem Fq_0_6 : xFp 0 6 .int := fun C T N hC => by
  have h2 : (RX0, TX0, 8) = (C, T, N) := Option.some.inj hC
  cases h2
  exact ⟨rfl, by decide +kernel⟩
theorem G_X0_34 : xF RX0 34 0 7 := ⟨RX0, TX0, 8, tyX0, rfl, by decide, x_in 280 (by decide +kernel) rfl, i_X0, tyX0_ok, nmX0⟩
theorem Fq_0_7 : xFp 0 7 .long := fun C T N hC => by
  have h2 : (RX0, TX0, 8) = (C, T, N) := Option.some.inj hC
  cases h2
  exact ⟨rfl, by decide +kernel⟩
theorem OL_X7_3 : Cond.methodLink RX7 3 objectInit ∈ xtb := x_in 101 (by decide +kernel) rfl
theorem CN_X7_9 : Cond.classLink RX7 9 RX1 ∈ xtb := x_in 104 (by decide +kernel) rfl
theorem IN_X1 : Cond.instantiable RX1 4 ∈ xtb ∧ Cond.initialized RX1 ∈ xtb := ⟨x_in 105 (by decide +kernel) rfl, x_in 79 (by decide +kernel) rfl⟩
theorem DF_X1 : ∀ j, j < 4 → defaultValue (tyX1 j) = vp_V [.int 0, .int 0, .int 0, .int 0] j := by
  intro j hj
  rcases (show j = 0 ∨ j = 1 ∨ j = 2 ∨ j = 3 by omega) with rfl | rfl | rfl | rfl <;> rfl
theorem G_X7_12 : xF RX7 12 7 0 := ⟨RX7, TX7, 8, tyX7, rfl, by decide, x_in 299 (by decide +kernel) rfl, i_X7, tyX7_ok, nmX7⟩
theorem Ff_7_0 : xFf 7 0 (.object "PodMarks$Island") RX7 := fun C T N hC => by
  have h2 : (RX7, TX7, 8) = (C, T, N) := Option.some.inj hC
  cases h2
  exact ⟨rfl, by decide +kernel, rfl⟩
theorem CL_X7_16 : Cond.classLink RX7 16 RX3 ∈ xtb := x_in 127 (by decide +kernel) rfl
theorem G_X7_18 : xF RX7 18 7 1 := ⟨RX7, TX7, 8, tyX7, rfl, by decide, x_in 300 (by decide +kernel) rfl, i_X7, tyX7_ok, nmX7⟩
theorem Ff_7_1 : xFf 7 1 (.array (.object "PodMarks$MarkList")) RX7 := fun C T N hC => by
  have h2 : (RX7, TX7, 8) = (C, T, N) := Option.some.inj hC
  cases h2
  exact ⟨rfl, by decide +kernel, rfl⟩
theorem CN_X7_16 : Cond.classLink RX7 16 RX3 ∈ xtb := x_in 127 (by decide +kernel) rfl
theorem IN_X3 : Cond.instantiable RX3 3 ∈ xtb ∧ Cond.initialized RX3 ∈ xtb := ⟨x_in 129 (by decide +kernel) rfl, x_in 80 (by decide +kernel) rfl⟩
theorem DF_X3 : ∀ j, j < 3 → defaultValue (tyX3 j) = vp_V [.null, .null, .int 0] j := by
  intro j hj
  rcases (show j = 0 ∨ j = 1 ∨ j = 2 by omega) with rfl | rfl | rfl <;> rfl
theorem G_X7_23 : xF RX7 23 7 2 := ⟨RX7, TX7, 8, tyX7, rfl, by decide, x_in 301 (by decide +kernel) rfl, i_X7, tyX7_ok, nmX7⟩
theorem Ff_7_2 : xFf 7 2 (.object "PodMarks$MarkList") RX7 := fun C T N hC => by
  have h2 : (RX7, TX7, 8) = (C, T, N) := Option.some.inj hC
  cases h2
  exact ⟨rfl, by decide +kernel, rfl⟩
theorem CN_X7_27 : Cond.classLink RX7 27 RX4 ∈ xtb := x_in 150 (by decide +kernel) rfl
theorem IN_X4 : Cond.instantiable RX4 3 ∈ xtb ∧ Cond.initialized RX4 ∈ xtb := ⟨x_in 151 (by decide +kernel) rfl, x_in 81 (by decide +kernel) rfl⟩
theorem DF_X4 : ∀ j, j < 3 → defaultValue (tyX4 j) = vp_V [.null, .null, .int 0] j := by
  intro j hj
  rcases (show j = 0 ∨ j = 1 ∨ j = 2 by omega) with rfl | rfl | rfl <;> rfl
theorem ML_X7_29 : Cond.methodLink RX7 29 yX4_init ∈ xtb := x_in 152 (by decide +kernel) rfl
theorem G_X7_30 : xF RX7 30 7 3 := ⟨RX7, TX7, 8, tyX7, rfl, by decide, x_in 302 (by decide +kernel) rfl, i_X7, tyX7_ok, nmX7⟩
theorem Ff_7_3 : xFf 7 3 (.object "PodMarks$Reading") RX7 := fun C T N hC => by
  have h2 : (RX7, TX7, 8) = (C, T, N) := Option.some.inj hC
  cases h2
  exact ⟨rfl, by decide +kernel, rfl⟩
theorem CN_X7_34 : Cond.classLink RX7 34 RX6 ∈ xtb := x_in 170 (by decide +kernel) rfl
theorem IN_X6 : Cond.instantiable RX6 5 ∈ xtb ∧ Cond.initialized RX6 ∈ xtb := ⟨x_in 171 (by decide +kernel) rfl, x_in 83 (by decide +kernel) rfl⟩
theorem DF_X6 : ∀ j, j < 5 → defaultValue (tyX6 j) = vp_V [.null, .int 0, .int 0, .int 0, .int 0] j := by
  intro j hj
  rcases (show j = 0 ∨ j = 1 ∨ j = 2 ∨ j = 3 ∨ j = 4 by omega) with rfl | rfl | rfl | rfl | rfl <;> rfl
theorem G_X7_37 : xF RX7 37 7 4 := ⟨RX7, TX7, 8, tyX7, rfl, by decide, x_in 303 (by decide +kernel) rfl, i_X7, tyX7_ok, nmX7⟩
theorem Ff_7_4 : xFf 7 4 (.object "PodMarks$Text") RX7 := fun C T N hC => by
  have h2 : (RX7, TX7, 8) = (C, T, N) := Option.some.inj hC
  cases h2
  exact ⟨rfl, by decide +kernel, rfl⟩
theorem CN_X7_41 : Cond.classLink RX7 41 RX5 ∈ xtb := x_in 195 (by decide +kernel) rfl
theorem IN_X5 : Cond.instantiable RX5 11 ∈ xtb ∧ Cond.initialized RX5 ∈ xtb := ⟨x_in 196 (by decide +kernel) rfl, x_in 84 (by decide +kernel) rfl⟩
theorem DF_X5 : ∀ j, j < 11 → defaultValue (tyX5 j) = vp_V [.null, .null, .null, .int 0, .int 0, .int 0, .null, .null, .null, .int 0, .int 0] j := by
  intro j hj
  rcases (show j = 0 ∨ j = 1 ∨ j = 2 ∨ j = 3 ∨ j = 4 ∨ j = 5 ∨ j = 6 ∨ j = 7 ∨ j = 8 ∨ j = 9 ∨ j = 10 by omega) with rfl | rfl | rfl | rfl | rfl | rfl | rfl | rfl | rfl | rfl | rfl <;> rfl
theorem G_X7_44 : xF RX7 44 7 5 := ⟨RX7, TX7, 8, tyX7, rfl, by decide, x_in 304 (by decide +kernel) rfl, i_X7, tyX7_ok, nmX7⟩
theorem Ff_7_5 : xFf 7 5 (.object "PodMarks$Rule") RX7 := fun C T N hC => by
  have h2 : (RX7, TX7, 8) = (C, T, N) := Option.some.inj hC
  cases h2
  exact ⟨rfl, by decide +kernel, rfl⟩
theorem CN_X7_48 : Cond.classLink RX7 48 RX2 ∈ xtb := x_in 238 (by decide +kernel) rfl
theorem IN_X2 : Cond.instantiable RX2 6 ∈ xtb ∧ Cond.initialized RX2 ∈ xtb := ⟨x_in 239 (by decide +kernel) rfl, x_in 85 (by decide +kernel) rfl⟩
theorem DF_X2 : ∀ j, j < 6 → defaultValue (tyX2 j) = vp_V [.null, .null, .null, .int 0, .int 0, .int 0] j := by
  intro j hj
  rcases (show j = 0 ∨ j = 1 ∨ j = 2 ∨ j = 3 ∨ j = 4 ∨ j = 5 by omega) with rfl | rfl | rfl | rfl | rfl | rfl <;> rfl
theorem G_X7_51 : xF RX7 51 7 6 := ⟨RX7, TX7, 8, tyX7, rfl, by decide, x_in 305 (by decide +kernel) rfl, i_X7, tyX7_ok, nmX7⟩
theorem Ff_7_6 : xFf 7 6 (.object "PodMarks$Largest") RX7 := fun C T N hC => by
  have h2 : (RX7, TX7, 8) = (C, T, N) := Option.some.inj hC
  cases h2
  exact ⟨rfl, by decide +kernel, rfl⟩
theorem CN_X7_55 : Cond.classLink RX7 55 RX0 ∈ xtb := x_in 265 (by decide +kernel) rfl
theorem IN_X0 : Cond.instantiable RX0 8 ∈ xtb ∧ Cond.initialized RX0 ∈ xtb := ⟨x_in 266 (by decide +kernel) rfl, x_in 86 (by decide +kernel) rfl⟩
theorem DF_X0 : ∀ j, j < 8 → defaultValue (tyX0 j) = vp_V [.null, .null, .null, .int 0, .int 0, .int 0, .int 0, .long 0] j := by
  intro j hj
  rcases (show j = 0 ∨ j = 1 ∨ j = 2 ∨ j = 3 ∨ j = 4 ∨ j = 5 ∨ j = 6 ∨ j = 7 by omega) with rfl | rfl | rfl | rfl | rfl | rfl | rfl | rfl <;> rfl
theorem G_X7_58 : xF RX7 58 7 7 := ⟨RX7, TX7, 8, tyX7, rfl, by decide, x_in 306 (by decide +kernel) rfl, i_X7, tyX7_ok, nmX7⟩
theorem Ff_7_7 : xFf 7 7 (.object "PodMarks$Covers") RX7 := fun C T N hC => by
  have h2 : (RX7, TX7, 8) = (C, T, N) := Option.some.inj hC
  cases h2
  exact ⟨rfl, by decide +kernel, rfl⟩
set_option maxRecDepth 100000 in
set_option maxHeartbeats 4000000 in
theorem k_fill {l : Launch} {g : xG} {b : Nat} : Cw l g { frames := 0, cells := 0, slots := 0, locals := 0 } yJ7_fill_53178 M_J7_fill_53178 [.ref b, .int (-1)] [(b, .inl (g.2.2.2.2.1, 12, .inl (fun _ => 0)))] 0 0 (fun w => w = [(b, .inl (g.2.2.2.2.1, 12, .inl (ffill 12)))]) := by
  refine Cw.of 2 (L0 := [some (.ref b), some (.int (-1)), none, none]) (by decide) rfl (Nat.le_of_ble_eq_true rfl) rfl ?_
  intro p e u m args below meth c A hC hnm hA hN hAO
  refine v_eq (ws' := [(b, .inl (g.2.2.2.2.1, 12, .inl (ffill 0)))]) rfl ?_
  refine v_iconst hC DJ7_fill_53178_0 (v := 0) (by decide) ?_
  refine v_istore_n (L' := [some (.ref b), some (.int (-1)), some (.int 0), none]) hC DJ7_fill_53178_1 (i := 2) rfl (by decide) rfl rfl ?_
  refine v_aload_n hC DJ7_fill_53178_2 (i := 0) rfl rfl ?_
  refine v_alen (q0 := 0) (t0 := 0) (v := 12) hC DJ7_fill_53178_3 rfl rfl rfl ?_
  refine v_istore_n (L' := [some (.ref b), some (.int (-1)), some (.int 0), some (.int 12)]) hC DJ7_fill_53178_4 (i := 3) rfl (by decide) rfl rfl ?_
  refine v_iload_n hC DJ7_fill_53178_5 (i := 2) rfl rfl ?_
  refine v_iload_n hC DJ7_fill_53178_6 (i := 3) rfl rfl ?_
  refine v_icmp_ge hC DJ7_fill_53178_7 (tgt := 20) (by decide) (fun c => absurd c (by decide)) (fun _ => ?_)
  refine v_aload_n hC DJ7_fill_53178_10 (i := 0) rfl rfl ?_
  refine v_iload_n hC DJ7_fill_53178_11 (i := 2) rfl rfl ?_
  refine v_iload_n hC DJ7_fill_53178_12 (i := 1) rfl rfl ?_
  refine v_iast (ws' := [(b, .inl (g.2.2.2.2.1, 12, .inl (ffill 1)))]) (q0 := 0) (f := ffill 0) hC DJ7_fill_53178_13 rfl rfl (x_vin (by decide)) rfl ?_
  refine v_iinc (L' := [some (.ref b), some (.int (-1)), some (.int 1), some (.int 12)]) hC DJ7_fill_53178_14 (x := 0) (v := 1) rfl (by decide) (by decide) rfl rfl ?_
  refine v_goto hC DJ7_fill_53178_17 (tgt := 5) (by decide) ?_
  refine v_iload_n hC DJ7_fill_53178_5 (i := 2) rfl rfl ?_
  refine v_iload_n hC DJ7_fill_53178_6 (i := 3) rfl rfl ?_
  refine v_icmp_ge hC DJ7_fill_53178_7 (tgt := 20) (by decide) (fun c => absurd c (by decide)) (fun _ => ?_)
  refine v_aload_n hC DJ7_fill_53178_10 (i := 0) rfl rfl ?_
  refine v_iload_n hC DJ7_fill_53178_11 (i := 2) rfl rfl ?_
  refine v_iload_n hC DJ7_fill_53178_12 (i := 1) rfl rfl ?_
  refine v_iast (ws' := [(b, .inl (g.2.2.2.2.1, 12, .inl (ffill 2)))]) (q0 := 0) (f := ffill 1) hC DJ7_fill_53178_13 rfl rfl (x_vin (by decide)) rfl ?_
  refine v_iinc (L' := [some (.ref b), some (.int (-1)), some (.int 2), some (.int 12)]) hC DJ7_fill_53178_14 (x := 1) (v := 2) rfl (by decide) (by decide) rfl rfl ?_
  refine v_goto hC DJ7_fill_53178_17 (tgt := 5) (by decide) ?_
  refine v_iload_n hC DJ7_fill_53178_5 (i := 2) rfl rfl ?_
  refine v_iload_n hC DJ7_fill_53178_6 (i := 3) rfl rfl ?_
  refine v_icmp_ge hC DJ7_fill_53178_7 (tgt := 20) (by decide) (fun c => absurd c (by decide)) (fun _ => ?_)
  refine v_aload_n hC DJ7_fill_53178_10 (i := 0) rfl rfl ?_
  refine v_iload_n hC DJ7_fill_53178_11 (i := 2) rfl rfl ?_
  refine v_iload_n hC DJ7_fill_53178_12 (i := 1) rfl rfl ?_
  refine v_iast (ws' := [(b, .inl (g.2.2.2.2.1, 12, .inl (ffill 3)))]) (q0 := 0) (f := ffill 2) hC DJ7_fill_53178_13 rfl rfl (x_vin (by decide)) rfl ?_
  refine v_iinc (L' := [some (.ref b), some (.int (-1)), some (.int 3), some (.int 12)]) hC DJ7_fill_53178_14 (x := 2) (v := 3) rfl (by decide) (by decide) rfl rfl ?_
  refine v_goto hC DJ7_fill_53178_17 (tgt := 5) (by decide) ?_
  refine v_iload_n hC DJ7_fill_53178_5 (i := 2) rfl rfl ?_
  refine v_iload_n hC DJ7_fill_53178_6 (i := 3) rfl rfl ?_
  refine v_icmp_ge hC DJ7_fill_53178_7 (tgt := 20) (by decide) (fun c => absurd c (by decide)) (fun _ => ?_)
  refine v_aload_n hC DJ7_fill_53178_10 (i := 0) rfl rfl ?_
  refine v_iload_n hC DJ7_fill_53178_11 (i := 2) rfl rfl ?_
  refine v_iload_n hC DJ7_fill_53178_12 (i := 1) rfl rfl ?_
  refine v_iast (ws' := [(b, .inl (g.2.2.2.2.1, 12, .inl (ffill 4)))]) (q0 := 0) (f := ffill 3) hC DJ7_fill_53178_13 rfl rfl (x_vin (by decide)) rfl ?_
  refine v_iinc (L' := [some (.ref b), some (.int (-1)), some (.int 4), some (.int 12)]) hC DJ7_fill_53178_14 (x := 3) (v := 4) rfl (by decide) (by decide) rfl rfl ?_
  refine v_goto hC DJ7_fill_53178_17 (tgt := 5) (by decide) ?_
  refine v_iload_n hC DJ7_fill_53178_5 (i := 2) rfl rfl ?_
  refine v_iload_n hC DJ7_fill_53178_6 (i := 3) rfl rfl ?_
  refine v_icmp_ge hC DJ7_fill_53178_7 (tgt := 20) (by decide) (fun c => absurd c (by decide)) (fun _ => ?_)
  refine v_aload_n hC DJ7_fill_53178_10 (i := 0) rfl rfl ?_
  refine v_iload_n hC DJ7_fill_53178_11 (i := 2) rfl rfl ?_
  refine v_iload_n hC DJ7_fill_53178_12 (i := 1) rfl rfl ?_
  refine v_iast (ws' := [(b, .inl (g.2.2.2.2.1, 12, .inl (ffill 5)))]) (q0 := 0) (f := ffill 4) hC DJ7_fill_53178_13 rfl rfl (x_vin (by decide)) rfl ?_
  refine v_iinc (L' := [some (.ref b), some (.int (-1)), some (.int 5), some (.int 12)]) hC DJ7_fill_53178_14 (x := 4) (v := 5) rfl (by decide) (by decide) rfl rfl ?_
  refine v_goto hC DJ7_fill_53178_17 (tgt := 5) (by decide) ?_
  refine v_iload_n hC DJ7_fill_53178_5 (i := 2) rfl rfl ?_
  refine v_iload_n hC DJ7_fill_53178_6 (i := 3) rfl rfl ?_
  refine v_icmp_ge hC DJ7_fill_53178_7 (tgt := 20) (by decide) (fun c => absurd c (by decide)) (fun _ => ?_)
  refine v_aload_n hC DJ7_fill_53178_10 (i := 0) rfl rfl ?_
  refine v_iload_n hC DJ7_fill_53178_11 (i := 2) rfl rfl ?_
  refine v_iload_n hC DJ7_fill_53178_12 (i := 1) rfl rfl ?_
  refine v_iast (ws' := [(b, .inl (g.2.2.2.2.1, 12, .inl (ffill 6)))]) (q0 := 0) (f := ffill 5) hC DJ7_fill_53178_13 rfl rfl (x_vin (by decide)) rfl ?_
  refine v_iinc (L' := [some (.ref b), some (.int (-1)), some (.int 6), some (.int 12)]) hC DJ7_fill_53178_14 (x := 5) (v := 6) rfl (by decide) (by decide) rfl rfl ?_
  refine v_goto hC DJ7_fill_53178_17 (tgt := 5) (by decide) ?_
  refine v_iload_n hC DJ7_fill_53178_5 (i := 2) rfl rfl ?_
  refine v_iload_n hC DJ7_fill_53178_6 (i := 3) rfl rfl ?_
  refine v_icmp_ge hC DJ7_fill_53178_7 (tgt := 20) (by decide) (fun c => absurd c (by decide)) (fun _ => ?_)
  refine v_aload_n hC DJ7_fill_53178_10 (i := 0) rfl rfl ?_
  refine v_iload_n hC DJ7_fill_53178_11 (i := 2) rfl rfl ?_
  refine v_iload_n hC DJ7_fill_53178_12 (i := 1) rfl rfl ?_
  refine v_iast (ws' := [(b, .inl (g.2.2.2.2.1, 12, .inl (ffill 7)))]) (q0 := 0) (f := ffill 6) hC DJ7_fill_53178_13 rfl rfl (x_vin (by decide)) rfl ?_
  refine v_iinc (L' := [some (.ref b), some (.int (-1)), some (.int 7), some (.int 12)]) hC DJ7_fill_53178_14 (x := 6) (v := 7) rfl (by decide) (by decide) rfl rfl ?_
  refine v_goto hC DJ7_fill_53178_17 (tgt := 5) (by decide) ?_
  refine v_iload_n hC DJ7_fill_53178_5 (i := 2) rfl rfl ?_
  refine v_iload_n hC DJ7_fill_53178_6 (i := 3) rfl rfl ?_
  refine v_icmp_ge hC DJ7_fill_53178_7 (tgt := 20) (by decide) (fun c => absurd c (by decide)) (fun _ => ?_)
  refine v_aload_n hC DJ7_fill_53178_10 (i := 0) rfl rfl ?_
  refine v_iload_n hC DJ7_fill_53178_11 (i := 2) rfl rfl ?_
  refine v_iload_n hC DJ7_fill_53178_12 (i := 1) rfl rfl ?_
  refine v_iast (ws' := [(b, .inl (g.2.2.2.2.1, 12, .inl (ffill 8)))]) (q0 := 0) (f := ffill 7) hC DJ7_fill_53178_13 rfl rfl (x_vin (by decide)) rfl ?_
  refine v_iinc (L' := [some (.ref b), some (.int (-1)), some (.int 8), some (.int 12)]) hC DJ7_fill_53178_14 (x := 7) (v := 8) rfl (by decide) (by decide) rfl rfl ?_
  refine v_goto hC DJ7_fill_53178_17 (tgt := 5) (by decide) ?_
  refine v_iload_n hC DJ7_fill_53178_5 (i := 2) rfl rfl ?_
  refine v_iload_n hC DJ7_fill_53178_6 (i := 3) rfl rfl ?_
  refine v_icmp_ge hC DJ7_fill_53178_7 (tgt := 20) (by decide) (fun c => absurd c (by decide)) (fun _ => ?_)
  refine v_aload_n hC DJ7_fill_53178_10 (i := 0) rfl rfl ?_
  refine v_iload_n hC DJ7_fill_53178_11 (i := 2) rfl rfl ?_
  refine v_iload_n hC DJ7_fill_53178_12 (i := 1) rfl rfl ?_
  refine v_iast (ws' := [(b, .inl (g.2.2.2.2.1, 12, .inl (ffill 9)))]) (q0 := 0) (f := ffill 8) hC DJ7_fill_53178_13 rfl rfl (x_vin (by decide)) rfl ?_
  refine v_iinc (L' := [some (.ref b), some (.int (-1)), some (.int 9), some (.int 12)]) hC DJ7_fill_53178_14 (x := 8) (v := 9) rfl (by decide) (by decide) rfl rfl ?_
  refine v_goto hC DJ7_fill_53178_17 (tgt := 5) (by decide) ?_
  refine v_iload_n hC DJ7_fill_53178_5 (i := 2) rfl rfl ?_
  refine v_iload_n hC DJ7_fill_53178_6 (i := 3) rfl rfl ?_
  refine v_icmp_ge hC DJ7_fill_53178_7 (tgt := 20) (by decide) (fun c => absurd c (by decide)) (fun _ => ?_)
  refine v_aload_n hC DJ7_fill_53178_10 (i := 0) rfl rfl ?_
  refine v_iload_n hC DJ7_fill_53178_11 (i := 2) rfl rfl ?_
  refine v_iload_n hC DJ7_fill_53178_12 (i := 1) rfl rfl ?_
  refine v_iast (ws' := [(b, .inl (g.2.2.2.2.1, 12, .inl (ffill 10)))]) (q0 := 0) (f := ffill 9) hC DJ7_fill_53178_13 rfl rfl (x_vin (by decide)) rfl ?_
  refine v_iinc (L' := [some (.ref b), some (.int (-1)), some (.int 10), some (.int 12)]) hC DJ7_fill_53178_14 (x := 9) (v := 10) rfl (by decide) (by decide) rfl rfl ?_
  refine v_goto hC DJ7_fill_53178_17 (tgt := 5) (by decide) ?_
  refine v_iload_n hC DJ7_fill_53178_5 (i := 2) rfl rfl ?_
  refine v_iload_n hC DJ7_fill_53178_6 (i := 3) rfl rfl ?_
  refine v_icmp_ge hC DJ7_fill_53178_7 (tgt := 20) (by decide) (fun c => absurd c (by decide)) (fun _ => ?_)
  refine v_aload_n hC DJ7_fill_53178_10 (i := 0) rfl rfl ?_
  refine v_iload_n hC DJ7_fill_53178_11 (i := 2) rfl rfl ?_
  refine v_iload_n hC DJ7_fill_53178_12 (i := 1) rfl rfl ?_
  refine v_iast (ws' := [(b, .inl (g.2.2.2.2.1, 12, .inl (ffill 11)))]) (q0 := 0) (f := ffill 10) hC DJ7_fill_53178_13 rfl rfl (x_vin (by decide)) rfl ?_
  refine v_iinc (L' := [some (.ref b), some (.int (-1)), some (.int 11), some (.int 12)]) hC DJ7_fill_53178_14 (x := 10) (v := 11) rfl (by decide) (by decide) rfl rfl ?_
  refine v_goto hC DJ7_fill_53178_17 (tgt := 5) (by decide) ?_
  refine v_iload_n hC DJ7_fill_53178_5 (i := 2) rfl rfl ?_
  refine v_iload_n hC DJ7_fill_53178_6 (i := 3) rfl rfl ?_
  refine v_icmp_ge hC DJ7_fill_53178_7 (tgt := 20) (by decide) (fun c => absurd c (by decide)) (fun _ => ?_)
  refine v_aload_n hC DJ7_fill_53178_10 (i := 0) rfl rfl ?_
  refine v_iload_n hC DJ7_fill_53178_11 (i := 2) rfl rfl ?_
  refine v_iload_n hC DJ7_fill_53178_12 (i := 1) rfl rfl ?_
  refine v_iast (ws' := [(b, .inl (g.2.2.2.2.1, 12, .inl (ffill 12)))]) (q0 := 0) (f := ffill 11) hC DJ7_fill_53178_13 rfl rfl (x_vin (by decide)) rfl ?_
  refine v_iinc (L' := [some (.ref b), some (.int (-1)), some (.int 12), some (.int 12)]) hC DJ7_fill_53178_14 (x := 11) (v := 12) rfl (by decide) (by decide) rfl rfl ?_
  refine v_goto hC DJ7_fill_53178_17 (tgt := 5) (by decide) ?_
  refine v_iload_n hC DJ7_fill_53178_5 (i := 2) rfl rfl ?_
  refine v_iload_n hC DJ7_fill_53178_6 (i := 3) rfl rfl ?_
  refine v_icmp_ge hC DJ7_fill_53178_7 (tgt := 20) (by decide) (fun _ => ?_) (fun c => absurd (by decide) c)
  exact v_vret hC DJ7_fill_53178_20 rfl rfl
set_option maxRecDepth 100000 in
set_option maxHeartbeats 4000000 in
theorem k_X1_init {l : Launch} {g : xG} {b : Nat} : Cw l g { frames := 2, cells := 0, slots := 0, locals := 60 } yX1_init M_X1_init [.ref b] [(b, .inr (1, [.int 0, .int 0, .int 0, .int 0]))] 0 0 (fun w => w = [(b, .inr (1, [.int 7, .int 0, .int 1, .int 0]))]) := by
  refine Cw.of 0 (L0 := [some (.ref b)]) (by decide) rfl (Nat.le_of_ble_eq_true rfl) rfl ?_
  intro p e u m args below meth c A hC hnm hA hN hAO
  refine v_aload_n hC DX1_init_0 (i := 0) rfl rfl ?_
  refine v_objInit hC DX1_init_1 OL_X1_3 OI_1 OI_2 (by decide) (Nat.le_of_ble_eq_true rfl) ?_
  refine v_aload_n hC DX1_init_4 (i := 0) rfl rfl ?_
  refine v_bipush hC DX1_init_5 (v := 7) (by decide) ?_
  refine v_put (ws' := [(b, .inr (1, [.int 7, .int 0, .int 0, .int 0]))]) (q0 := 0) hC DX1_init_7 G_X1_9 Fq_1_0 rfl rfl rfl (Nat.le_of_ble_eq_true rfl) rfl ?_
  refine v_aload_n hC DX1_init_10 (i := 0) rfl rfl ?_
  refine v_iconst hC DX1_init_11 (v := 0) (by decide) ?_
  refine v_put (ws' := [(b, .inr (1, [.int 7, .int 0, .int 0, .int 0]))]) (q0 := 0) hC DX1_init_12 G_X1_15 Fq_1_1 rfl rfl rfl (Nat.le_of_ble_eq_true rfl) rfl ?_
  refine v_aload_n hC DX1_init_15 (i := 0) rfl rfl ?_
  refine v_iconst hC DX1_init_16 (v := 1) (by decide) ?_
  refine v_put (ws' := [(b, .inr (1, [.int 7, .int 0, .int 1, .int 0]))]) (q0 := 0) hC DX1_init_17 G_X1_18 Fq_1_2 rfl rfl rfl (Nat.le_of_ble_eq_true rfl) rfl ?_
  refine v_aload_n hC DX1_init_20 (i := 0) rfl rfl ?_
  refine v_iconst hC DX1_init_21 (v := 0) (by decide) ?_
  refine v_put (ws' := [(b, .inr (1, [.int 7, .int 0, .int 1, .int 0]))]) (q0 := 0) hC DX1_init_22 G_X1_21 Fq_1_3 rfl rfl rfl (Nat.le_of_ble_eq_true rfl) rfl ?_
  exact v_vret hC DX1_init_25 rfl rfl
set_option maxRecDepth 100000 in
set_option maxHeartbeats 4000000 in
theorem k_X3_init {l : Launch} {g : xG} {b : Nat} : Cw l g { frames := 2, cells := 2, slots := 128, locals := 60 } yX3_init M_X3_init [.ref b] [(b, .inr (3, [.null, .null, .int 0]))] 2 128 (fun w => ∃ q0 q1 : Nat, w = [(b, .inr (3, [.ref q0, .ref q1, .int 0])), (q0, .inl (g.2.2.2.2.1, 64, .inl (fun _ => 0))), (q1, .inl (g.2.2.2.2.2.1, 64, .inr (.inl (fun _ => 0))))]) := by
  refine Cw.of 0 (L0 := [some (.ref b)]) (by decide) rfl (Nat.le_of_ble_eq_true rfl) rfl ?_
  intro p e u m args below meth c A hC hnm hA hN hAO
  refine v_aload_n hC DX3_init_0 (i := 0) rfl rfl ?_
  refine v_objInit hC DX3_init_1 OL_X3_3 OI_1 OI_2 (by decide) (Nat.le_of_ble_eq_true rfl) ?_
  refine v_aload_n hC DX3_init_4 (i := 0) rfl rfl ?_
  refine v_bipush hC DX3_init_5 (v := 64) (by decide) ?_
  refine v_newi (N' := 64) hC hA DX3_init_7 AC_int (by decide) (by decide) (by decide) (Nat.le_of_ble_eq_true rfl) (Nat.le_of_ble_eq_true rfl) (fun q0 => ?_)
  refine v_eq (ws' := [(b, .inr (3, [.null, .null, .int 0])), (q0, .inl (g.2.2.2.2.1, 64, .inl (fun _ => 0)))]) rfl ?_
  refine v_putF (ws' := [(b, .inr (3, [.ref q0, .null, .int 0])), (q0, .inl (g.2.2.2.2.1, 64, .inl (fun _ => 0)))]) (q0 := 0) hC hnm DX3_init_9 G_X3_9 Ff_3_0 rfl rfl rfl (Nat.le_of_ble_eq_true rfl) rfl ?_
  refine v_aload_n hC DX3_init_12 (i := 0) rfl rfl ?_
  refine v_bipush hC DX3_init_13 (v := 64) (by decide) ?_
  refine v_newj (N' := 64) hC hA DX3_init_15 AC_long (by decide) (by decide) (by decide) (Nat.le_of_ble_eq_true rfl) (Nat.le_of_ble_eq_true rfl) (fun q1 => ?_)
  refine v_eq (ws' := [(b, .inr (3, [.ref q0, .null, .int 0])), (q0, .inl (g.2.2.2.2.1, 64, .inl (fun _ => 0))), (q1, .inl (g.2.2.2.2.2.1, 64, .inr (.inl (fun _ => 0))))]) rfl ?_
  refine v_putF (ws' := [(b, .inr (3, [.ref q0, .ref q1, .int 0])), (q0, .inl (g.2.2.2.2.1, 64, .inl (fun _ => 0))), (q1, .inl (g.2.2.2.2.2.1, 64, .inr (.inl (fun _ => 0))))]) (q0 := 0) hC hnm DX3_init_17 G_X3_15 Ff_3_1 rfl rfl rfl (Nat.le_of_ble_eq_true rfl) rfl ?_
  refine v_aload_n hC DX3_init_20 (i := 0) rfl rfl ?_
  refine v_iconst hC DX3_init_21 (v := 0) (by decide) ?_
  refine v_put (ws' := [(b, .inr (3, [.ref q0, .ref q1, .int 0])), (q0, .inl (g.2.2.2.2.1, 64, .inl (fun _ => 0))), (q1, .inl (g.2.2.2.2.2.1, 64, .inr (.inl (fun _ => 0))))]) (q0 := 0) hC DX3_init_22 G_X3_19 Fq_3_2 rfl rfl rfl (Nat.le_of_ble_eq_true rfl) rfl ?_
  exact v_vret hC DX3_init_25 rfl ⟨q0, q1, rfl⟩
set_option maxRecDepth 100000 in
set_option maxHeartbeats 4000000 in
theorem k_X4_init {l : Launch} {g : xG} {b : Nat} : Cw l g { frames := 2, cells := 2, slots := 76, locals := 60 } yX4_init M_X4_init [.ref b] [(b, .inr (4, [.null, .null, .int 0]))] 2 76 (fun w => ∃ q0 q1 : Nat, w = [(b, .inr (4, [.ref q0, .ref q1, .int 0])), (q1, .inl (g.2.2.2.2.2.1, 64, .inr (.inl (fun _ => 0)))), (q0, .inl (g.2.2.2.2.1, 12, .inl (ffill 12)))]) := by
  refine Cw.of 0 (L0 := [some (.ref b)]) (by decide) rfl (Nat.le_of_ble_eq_true rfl) rfl ?_
  intro p e u m args below meth c A hC hnm hA hN hAO
  refine v_aload_n hC DX4_init_0 (i := 0) rfl rfl ?_
  refine v_objInit hC DX4_init_1 OL_X4_3 OI_1 OI_2 (by decide) (Nat.le_of_ble_eq_true rfl) ?_
  refine v_aload_n hC DX4_init_4 (i := 0) rfl rfl ?_
  refine v_bipush hC DX4_init_5 (v := 12) (by decide) ?_
  refine v_newi (N' := 12) hC hA DX4_init_7 AC_int (by decide) (by decide) (by decide) (Nat.le_of_ble_eq_true rfl) (Nat.le_of_ble_eq_true rfl) (fun q0 => ?_)
  refine v_eq (ws' := [(b, .inr (4, [.null, .null, .int 0])), (q0, .inl (g.2.2.2.2.1, 12, .inl (fun _ => 0)))]) rfl ?_
  refine v_putF (ws' := [(b, .inr (4, [.ref q0, .null, .int 0])), (q0, .inl (g.2.2.2.2.1, 12, .inl (fun _ => 0)))]) (q0 := 0) hC hnm DX4_init_9 G_X4_9 Ff_4_0 rfl rfl rfl (Nat.le_of_ble_eq_true rfl) rfl ?_
  refine v_aload_n hC DX4_init_12 (i := 0) rfl rfl ?_
  refine v_bipush hC DX4_init_13 (v := 64) (by decide) ?_
  refine v_newj (N' := 64) hC hA DX4_init_15 AC_long (by decide) (by decide) (by decide) (Nat.le_of_ble_eq_true rfl) (Nat.le_of_ble_eq_true rfl) (fun q1 => ?_)
  refine v_eq (ws' := [(b, .inr (4, [.ref q0, .null, .int 0])), (q0, .inl (g.2.2.2.2.1, 12, .inl (fun _ => 0))), (q1, .inl (g.2.2.2.2.2.1, 64, .inr (.inl (fun _ => 0))))]) rfl ?_
  refine v_putF (ws' := [(b, .inr (4, [.ref q0, .ref q1, .int 0])), (q0, .inl (g.2.2.2.2.1, 12, .inl (fun _ => 0))), (q1, .inl (g.2.2.2.2.2.1, 64, .inr (.inl (fun _ => 0))))]) (q0 := 0) hC hnm DX4_init_17 G_X4_15 Ff_4_1 rfl rfl rfl (Nat.le_of_ble_eq_true rfl) rfl ?_
  refine v_aload_n hC DX4_init_20 (i := 0) rfl rfl ?_
  refine v_iconst hC DX4_init_21 (v := 0) (by decide) ?_
  refine v_put (ws' := [(b, .inr (4, [.ref q0, .ref q1, .int 0])), (q0, .inl (g.2.2.2.2.1, 12, .inl (fun _ => 0))), (q1, .inl (g.2.2.2.2.2.1, 64, .inr (.inl (fun _ => 0))))]) (q0 := 0) hC DX4_init_22 G_X4_19 Fq_4_2 rfl rfl rfl (Nat.le_of_ble_eq_true rfl) rfl ?_
  refine v_aload_n hC DX4_init_25 (i := 0) rfl rfl ?_
  refine v_get (q0 := 0) (v := .ref q0) hC DX4_init_26 G_X4_9 rfl rfl ?_
  refine v_iconst hC DX4_init_29 (v := (-1)) (by decide) ?_
  refine v_callSc (As := [.ref q0, .int (-1)]) (S := []) (wr := [(b, .inr (4, [.ref q0, .ref q1, .int 0])), (q1, .inl (g.2.2.2.2.2.1, 64, .inr (.inl (fun _ => 0))))]) [1] [0, 2] hC hA hN hAO DX4_init_30 C_X4_23 rfl (k_fill (b := q0)) rfl rfl rfl rfl (by decide) (by decide) (by decide) rfl rfl (by decide) (by decide) (Nat.le_of_ble_eq_true rfl) (Nat.le_of_ble_eq_true rfl) (Nat.le_of_ble_eq_true rfl) (fun w hw => ?_)
  subst hw
  refine v_eq (ws' := [(b, .inr (4, [.ref q0, .ref q1, .int 0])), (q1, .inl (g.2.2.2.2.2.1, 64, .inr (.inl (fun _ => 0)))), (q0, .inl (g.2.2.2.2.1, 12, .inl (ffill 12)))]) rfl ?_
  exact v_vret hC DX4_init_33 rfl ⟨q0, q1, rfl⟩
set_option maxRecDepth 100000 in
set_option maxHeartbeats 4000000 in
theorem k_X6_init {l : Launch} {g : xG} {b : Nat} : Cw l g { frames := 2, cells := 1, slots := 120, locals := 60 } yX6_init M_X6_init [.ref b] [(b, .inr (6, [.null, .int 0, .int 0, .int 0, .int 0]))] 1 120 (fun w => ∃ q0 : Nat, w = [(b, .inr (6, [.ref q0, .int 0, .int 0, .int 0, .int 0])), (q0, .inl (g.2.2.2.2.1, 120, .inl (fun _ => 0)))]) := by
  refine Cw.of 0 (L0 := [some (.ref b)]) (by decide) rfl (Nat.le_of_ble_eq_true rfl) rfl ?_
  intro p e u m args below meth c A hC hnm hA hN hAO
  refine v_aload_n hC DX6_init_0 (i := 0) rfl rfl ?_
  refine v_objInit hC DX6_init_1 OL_X6_3 OI_1 OI_2 (by decide) (Nat.le_of_ble_eq_true rfl) ?_
  refine v_aload_n hC DX6_init_4 (i := 0) rfl rfl ?_
  refine v_bipush hC DX6_init_5 (v := 120) (by decide) ?_
  refine v_newi (N' := 120) hC hA DX6_init_7 AC_int (by decide) (by decide) (by decide) (Nat.le_of_ble_eq_true rfl) (Nat.le_of_ble_eq_true rfl) (fun q0 => ?_)
  refine v_eq (ws' := [(b, .inr (6, [.null, .int 0, .int 0, .int 0, .int 0])), (q0, .inl (g.2.2.2.2.1, 120, .inl (fun _ => 0)))]) rfl ?_
  refine v_putF (ws' := [(b, .inr (6, [.ref q0, .int 0, .int 0, .int 0, .int 0])), (q0, .inl (g.2.2.2.2.1, 120, .inl (fun _ => 0)))]) (q0 := 0) hC hnm DX6_init_9 G_X6_11 Ff_6_0 rfl rfl rfl (Nat.le_of_ble_eq_true rfl) rfl ?_
  refine v_aload_n hC DX6_init_12 (i := 0) rfl rfl ?_
  refine v_iconst hC DX6_init_13 (v := 0) (by decide) ?_
  refine v_put (ws' := [(b, .inr (6, [.ref q0, .int 0, .int 0, .int 0, .int 0])), (q0, .inl (g.2.2.2.2.1, 120, .inl (fun _ => 0)))]) (q0 := 0) hC DX6_init_14 G_X6_15 Fq_6_1 rfl rfl rfl (Nat.le_of_ble_eq_true rfl) rfl ?_
  refine v_aload_n hC DX6_init_17 (i := 0) rfl rfl ?_
  refine v_iconst hC DX6_init_18 (v := 0) (by decide) ?_
  refine v_put (ws' := [(b, .inr (6, [.ref q0, .int 0, .int 0, .int 0, .int 0])), (q0, .inl (g.2.2.2.2.1, 120, .inl (fun _ => 0)))]) (q0 := 0) hC DX6_init_19 G_X6_19 Fq_6_2 rfl rfl rfl (Nat.le_of_ble_eq_true rfl) rfl ?_
  refine v_aload_n hC DX6_init_22 (i := 0) rfl rfl ?_
  refine v_iconst hC DX6_init_23 (v := 0) (by decide) ?_
  refine v_put (ws' := [(b, .inr (6, [.ref q0, .int 0, .int 0, .int 0, .int 0])), (q0, .inl (g.2.2.2.2.1, 120, .inl (fun _ => 0)))]) (q0 := 0) hC DX6_init_24 G_X6_22 Fq_6_3 rfl rfl rfl (Nat.le_of_ble_eq_true rfl) rfl ?_
  refine v_aload_n hC DX6_init_27 (i := 0) rfl rfl ?_
  refine v_iconst hC DX6_init_28 (v := 0) (by decide) ?_
  refine v_put (ws' := [(b, .inr (6, [.ref q0, .int 0, .int 0, .int 0, .int 0])), (q0, .inl (g.2.2.2.2.1, 120, .inl (fun _ => 0)))]) (q0 := 0) hC DX6_init_29 G_X6_25 Fq_6_4 rfl rfl rfl (Nat.le_of_ble_eq_true rfl) rfl ?_
  exact v_vret hC DX6_init_32 rfl ⟨q0, rfl⟩
set_option maxRecDepth 100000 in
set_option maxHeartbeats 4000000 in
theorem k_X5_init {l : Launch} {g : xG} {b : Nat} : Cw l g { frames := 2, cells := 6, slots := 375, locals := 60 } yX5_init M_X5_init [.ref b] [(b, .inr (5, [.null, .null, .null, .int 0, .int 0, .int 0, .null, .null, .null, .int 0, .int 0]))] 6 375 (fun w => ∃ q0 q1 q2 q3 q4 q5 : Nat, w = [(b, .inr (5, [.ref q0, .ref q1, .ref q2, .int 0, .int 0, .int (-1), .ref q3, .ref q4, .ref q5, .int 0, .int 1])), (q0, .inl (g.2.2.2.2.1, 120, .inl (fun _ => 0))), (q1, .inl (g.2.2.2.2.1, 120, .inl (fun _ => 0))), (q2, .inl (g.2.2.2.2.1, 120, .inl (fun _ => 0))), (q3, .inl (g.2.2.2.2.2.2.1, 5, .inl (fun _ => 0))), (q4, .inl (g.2.2.2.2.2.2.1, 5, .inl (fun _ => 0))), (q5, .inl (g.2.2.2.2.2.2.1, 5, .inl (fun _ => 0)))]) := by
  refine Cw.of 0 (L0 := [some (.ref b)]) (by decide) rfl (Nat.le_of_ble_eq_true rfl) rfl ?_
  intro p e u m args below meth c A hC hnm hA hN hAO
  refine v_aload_n hC DX5_init_0 (i := 0) rfl rfl ?_
  refine v_objInit hC DX5_init_1 OL_X5_3 OI_1 OI_2 (by decide) (Nat.le_of_ble_eq_true rfl) ?_
  refine v_aload_n hC DX5_init_4 (i := 0) rfl rfl ?_
  refine v_bipush hC DX5_init_5 (v := 120) (by decide) ?_
  refine v_newi (N' := 120) hC hA DX5_init_7 AC_int (by decide) (by decide) (by decide) (Nat.le_of_ble_eq_true rfl) (Nat.le_of_ble_eq_true rfl) (fun q0 => ?_)
  refine v_eq (ws' := [(b, .inr (5, [.null, .null, .null, .int 0, .int 0, .int 0, .null, .null, .null, .int 0, .int 0])), (q0, .inl (g.2.2.2.2.1, 120, .inl (fun _ => 0)))]) rfl ?_
  refine v_putF (ws' := [(b, .inr (5, [.ref q0, .null, .null, .int 0, .int 0, .int 0, .null, .null, .null, .int 0, .int 0])), (q0, .inl (g.2.2.2.2.1, 120, .inl (fun _ => 0)))]) (q0 := 0) hC hnm DX5_init_9 G_X5_11 Ff_5_0 rfl rfl rfl (Nat.le_of_ble_eq_true rfl) rfl ?_
  refine v_aload_n hC DX5_init_12 (i := 0) rfl rfl ?_
  refine v_bipush hC DX5_init_13 (v := 120) (by decide) ?_
  refine v_newi (N' := 120) hC hA DX5_init_15 AC_int (by decide) (by decide) (by decide) (Nat.le_of_ble_eq_true rfl) (Nat.le_of_ble_eq_true rfl) (fun q1 => ?_)
  refine v_eq (ws' := [(b, .inr (5, [.ref q0, .null, .null, .int 0, .int 0, .int 0, .null, .null, .null, .int 0, .int 0])), (q0, .inl (g.2.2.2.2.1, 120, .inl (fun _ => 0))), (q1, .inl (g.2.2.2.2.1, 120, .inl (fun _ => 0)))]) rfl ?_
  refine v_putF (ws' := [(b, .inr (5, [.ref q0, .ref q1, .null, .int 0, .int 0, .int 0, .null, .null, .null, .int 0, .int 0])), (q0, .inl (g.2.2.2.2.1, 120, .inl (fun _ => 0))), (q1, .inl (g.2.2.2.2.1, 120, .inl (fun _ => 0)))]) (q0 := 0) hC hnm DX5_init_17 G_X5_17 Ff_5_1 rfl rfl rfl (Nat.le_of_ble_eq_true rfl) rfl ?_
  refine v_aload_n hC DX5_init_20 (i := 0) rfl rfl ?_
  refine v_bipush hC DX5_init_21 (v := 120) (by decide) ?_
  refine v_newi (N' := 120) hC hA DX5_init_23 AC_int (by decide) (by decide) (by decide) (Nat.le_of_ble_eq_true rfl) (Nat.le_of_ble_eq_true rfl) (fun q2 => ?_)
  refine v_eq (ws' := [(b, .inr (5, [.ref q0, .ref q1, .null, .int 0, .int 0, .int 0, .null, .null, .null, .int 0, .int 0])), (q0, .inl (g.2.2.2.2.1, 120, .inl (fun _ => 0))), (q1, .inl (g.2.2.2.2.1, 120, .inl (fun _ => 0))), (q2, .inl (g.2.2.2.2.1, 120, .inl (fun _ => 0)))]) rfl ?_
  refine v_putF (ws' := [(b, .inr (5, [.ref q0, .ref q1, .ref q2, .int 0, .int 0, .int 0, .null, .null, .null, .int 0, .int 0])), (q0, .inl (g.2.2.2.2.1, 120, .inl (fun _ => 0))), (q1, .inl (g.2.2.2.2.1, 120, .inl (fun _ => 0))), (q2, .inl (g.2.2.2.2.1, 120, .inl (fun _ => 0)))]) (q0 := 0) hC hnm DX5_init_25 G_X5_20 Ff_5_2 rfl rfl rfl (Nat.le_of_ble_eq_true rfl) rfl ?_
  refine v_aload_n hC DX5_init_28 (i := 0) rfl rfl ?_
  refine v_iconst hC DX5_init_29 (v := 0) (by decide) ?_
  refine v_put (ws' := [(b, .inr (5, [.ref q0, .ref q1, .ref q2, .int 0, .int 0, .int 0, .null, .null, .null, .int 0, .int 0])), (q0, .inl (g.2.2.2.2.1, 120, .inl (fun _ => 0))), (q1, .inl (g.2.2.2.2.1, 120, .inl (fun _ => 0))), (q2, .inl (g.2.2.2.2.1, 120, .inl (fun _ => 0)))]) (q0 := 0) hC DX5_init_30 G_X5_23 Fq_5_3 rfl rfl rfl (Nat.le_of_ble_eq_true rfl) rfl ?_
  refine v_aload_n hC DX5_init_33 (i := 0) rfl rfl ?_
  refine v_iconst hC DX5_init_34 (v := 0) (by decide) ?_
  refine v_put (ws' := [(b, .inr (5, [.ref q0, .ref q1, .ref q2, .int 0, .int 0, .int 0, .null, .null, .null, .int 0, .int 0])), (q0, .inl (g.2.2.2.2.1, 120, .inl (fun _ => 0))), (q1, .inl (g.2.2.2.2.1, 120, .inl (fun _ => 0))), (q2, .inl (g.2.2.2.2.1, 120, .inl (fun _ => 0)))]) (q0 := 0) hC DX5_init_35 G_X5_27 Fq_5_4 rfl rfl rfl (Nat.le_of_ble_eq_true rfl) rfl ?_
  refine v_aload_n hC DX5_init_38 (i := 0) rfl rfl ?_
  refine v_iconst hC DX5_init_39 (v := (-1)) (by decide) ?_
  refine v_put (ws' := [(b, .inr (5, [.ref q0, .ref q1, .ref q2, .int 0, .int 0, .int (-1), .null, .null, .null, .int 0, .int 0])), (q0, .inl (g.2.2.2.2.1, 120, .inl (fun _ => 0))), (q1, .inl (g.2.2.2.2.1, 120, .inl (fun _ => 0))), (q2, .inl (g.2.2.2.2.1, 120, .inl (fun _ => 0)))]) (q0 := 0) hC DX5_init_40 G_X5_30 Fq_5_5 rfl rfl rfl (Nat.le_of_ble_eq_true rfl) rfl ?_
  refine v_aload_n hC DX5_init_43 (i := 0) rfl rfl ?_
  refine v_iconst hC DX5_init_44 (v := 5) (by decide) ?_
  refine v_newz (N' := 5) hC hA DX5_init_45 AC_boolean (by decide) (by decide) (by decide) (Nat.le_of_ble_eq_true rfl) (Nat.le_of_ble_eq_true rfl) (fun q3 => ?_)
  refine v_eq (ws' := [(b, .inr (5, [.ref q0, .ref q1, .ref q2, .int 0, .int 0, .int (-1), .null, .null, .null, .int 0, .int 0])), (q0, .inl (g.2.2.2.2.1, 120, .inl (fun _ => 0))), (q1, .inl (g.2.2.2.2.1, 120, .inl (fun _ => 0))), (q2, .inl (g.2.2.2.2.1, 120, .inl (fun _ => 0))), (q3, .inl (g.2.2.2.2.2.2.1, 5, .inl (fun _ => 0)))]) rfl ?_
  refine v_putF (ws' := [(b, .inr (5, [.ref q0, .ref q1, .ref q2, .int 0, .int 0, .int (-1), .ref q3, .null, .null, .int 0, .int 0])), (q0, .inl (g.2.2.2.2.1, 120, .inl (fun _ => 0))), (q1, .inl (g.2.2.2.2.1, 120, .inl (fun _ => 0))), (q2, .inl (g.2.2.2.2.1, 120, .inl (fun _ => 0))), (q3, .inl (g.2.2.2.2.2.2.1, 5, .inl (fun _ => 0)))]) (q0 := 0) hC hnm DX5_init_47 G_X5_33 Ff_5_6 rfl rfl rfl (Nat.le_of_ble_eq_true rfl) rfl ?_
  refine v_aload_n hC DX5_init_50 (i := 0) rfl rfl ?_
  refine v_iconst hC DX5_init_51 (v := 5) (by decide) ?_
  refine v_newz (N' := 5) hC hA DX5_init_52 AC_boolean (by decide) (by decide) (by decide) (Nat.le_of_ble_eq_true rfl) (Nat.le_of_ble_eq_true rfl) (fun q4 => ?_)
  refine v_eq (ws' := [(b, .inr (5, [.ref q0, .ref q1, .ref q2, .int 0, .int 0, .int (-1), .ref q3, .null, .null, .int 0, .int 0])), (q0, .inl (g.2.2.2.2.1, 120, .inl (fun _ => 0))), (q1, .inl (g.2.2.2.2.1, 120, .inl (fun _ => 0))), (q2, .inl (g.2.2.2.2.1, 120, .inl (fun _ => 0))), (q3, .inl (g.2.2.2.2.2.2.1, 5, .inl (fun _ => 0))), (q4, .inl (g.2.2.2.2.2.2.1, 5, .inl (fun _ => 0)))]) rfl ?_
  refine v_putF (ws' := [(b, .inr (5, [.ref q0, .ref q1, .ref q2, .int 0, .int 0, .int (-1), .ref q3, .ref q4, .null, .int 0, .int 0])), (q0, .inl (g.2.2.2.2.1, 120, .inl (fun _ => 0))), (q1, .inl (g.2.2.2.2.1, 120, .inl (fun _ => 0))), (q2, .inl (g.2.2.2.2.1, 120, .inl (fun _ => 0))), (q3, .inl (g.2.2.2.2.2.2.1, 5, .inl (fun _ => 0))), (q4, .inl (g.2.2.2.2.2.2.1, 5, .inl (fun _ => 0)))]) (q0 := 0) hC hnm DX5_init_54 G_X5_37 Ff_5_7 rfl rfl rfl (Nat.le_of_ble_eq_true rfl) rfl ?_
  refine v_aload_n hC DX5_init_57 (i := 0) rfl rfl ?_
  refine v_iconst hC DX5_init_58 (v := 5) (by decide) ?_
  refine v_newz (N' := 5) hC hA DX5_init_59 AC_boolean (by decide) (by decide) (by decide) (Nat.le_of_ble_eq_true rfl) (Nat.le_of_ble_eq_true rfl) (fun q5 => ?_)
  refine v_eq (ws' := [(b, .inr (5, [.ref q0, .ref q1, .ref q2, .int 0, .int 0, .int (-1), .ref q3, .ref q4, .null, .int 0, .int 0])), (q0, .inl (g.2.2.2.2.1, 120, .inl (fun _ => 0))), (q1, .inl (g.2.2.2.2.1, 120, .inl (fun _ => 0))), (q2, .inl (g.2.2.2.2.1, 120, .inl (fun _ => 0))), (q3, .inl (g.2.2.2.2.2.2.1, 5, .inl (fun _ => 0))), (q4, .inl (g.2.2.2.2.2.2.1, 5, .inl (fun _ => 0))), (q5, .inl (g.2.2.2.2.2.2.1, 5, .inl (fun _ => 0)))]) rfl ?_
  refine v_putF (ws' := [(b, .inr (5, [.ref q0, .ref q1, .ref q2, .int 0, .int 0, .int (-1), .ref q3, .ref q4, .ref q5, .int 0, .int 0])), (q0, .inl (g.2.2.2.2.1, 120, .inl (fun _ => 0))), (q1, .inl (g.2.2.2.2.1, 120, .inl (fun _ => 0))), (q2, .inl (g.2.2.2.2.1, 120, .inl (fun _ => 0))), (q3, .inl (g.2.2.2.2.2.2.1, 5, .inl (fun _ => 0))), (q4, .inl (g.2.2.2.2.2.2.1, 5, .inl (fun _ => 0))), (q5, .inl (g.2.2.2.2.2.2.1, 5, .inl (fun _ => 0)))]) (q0 := 0) hC hnm DX5_init_61 G_X5_40 Ff_5_8 rfl rfl rfl (Nat.le_of_ble_eq_true rfl) rfl ?_
  refine v_aload_n hC DX5_init_64 (i := 0) rfl rfl ?_
  refine v_iconst hC DX5_init_65 (v := 0) (by decide) ?_
  refine v_put (ws' := [(b, .inr (5, [.ref q0, .ref q1, .ref q2, .int 0, .int 0, .int (-1), .ref q3, .ref q4, .ref q5, .int 0, .int 0])), (q0, .inl (g.2.2.2.2.1, 120, .inl (fun _ => 0))), (q1, .inl (g.2.2.2.2.1, 120, .inl (fun _ => 0))), (q2, .inl (g.2.2.2.2.1, 120, .inl (fun _ => 0))), (q3, .inl (g.2.2.2.2.2.2.1, 5, .inl (fun _ => 0))), (q4, .inl (g.2.2.2.2.2.2.1, 5, .inl (fun _ => 0))), (q5, .inl (g.2.2.2.2.2.2.1, 5, .inl (fun _ => 0)))]) (q0 := 0) hC DX5_init_66 G_X5_43 Fq_5_9 rfl rfl rfl (Nat.le_of_ble_eq_true rfl) rfl ?_
  refine v_aload_n hC DX5_init_69 (i := 0) rfl rfl ?_
  refine v_iconst hC DX5_init_70 (v := 1) (by decide) ?_
  refine v_put (ws' := [(b, .inr (5, [.ref q0, .ref q1, .ref q2, .int 0, .int 0, .int (-1), .ref q3, .ref q4, .ref q5, .int 0, .int 1])), (q0, .inl (g.2.2.2.2.1, 120, .inl (fun _ => 0))), (q1, .inl (g.2.2.2.2.1, 120, .inl (fun _ => 0))), (q2, .inl (g.2.2.2.2.1, 120, .inl (fun _ => 0))), (q3, .inl (g.2.2.2.2.2.2.1, 5, .inl (fun _ => 0))), (q4, .inl (g.2.2.2.2.2.2.1, 5, .inl (fun _ => 0))), (q5, .inl (g.2.2.2.2.2.2.1, 5, .inl (fun _ => 0)))]) (q0 := 0) hC DX5_init_71 G_X5_46 Fq_5_10 rfl rfl rfl (Nat.le_of_ble_eq_true rfl) rfl ?_
  exact v_vret hC DX5_init_74 rfl ⟨q0, q1, q2, q3, q4, q5, rfl⟩
set_option maxRecDepth 100000 in
set_option maxHeartbeats 4000000 in
theorem k_X2_init {l : Launch} {g : xG} {b : Nat} : Cw l g { frames := 2, cells := 3, slots := 97, locals := 60 } yX2_init M_X2_init [.ref b] [(b, .inr (2, [.null, .null, .null, .int 0, .int 0, .int 0]))] 3 97 (fun w => ∃ q0 q1 q2 : Nat, w = [(b, .inr (2, [.ref q0, .ref q1, .ref q2, .int 0, .int (-1), .int 0])), (q0, .inl (g.2.2.2.2.1, 32, .inl (fun _ => 0))), (q1, .inl (g.2.2.2.2.2.1, 32, .inr (.inl (fun _ => 0)))), (q2, .inl (g.2.2.2.2.1, 33, .inl (fun _ => 0)))]) := by
  refine Cw.of 0 (L0 := [some (.ref b)]) (by decide) rfl (Nat.le_of_ble_eq_true rfl) rfl ?_
  intro p e u m args below meth c A hC hnm hA hN hAO
  refine v_aload_n hC DX2_init_0 (i := 0) rfl rfl ?_
  refine v_objInit hC DX2_init_1 OL_X2_5 OI_1 OI_2 (by decide) (Nat.le_of_ble_eq_true rfl) ?_
  refine v_aload_n hC DX2_init_4 (i := 0) rfl rfl ?_
  refine v_bipush hC DX2_init_5 (v := 32) (by decide) ?_
  refine v_newi (N' := 32) hC hA DX2_init_7 AC_int (by decide) (by decide) (by decide) (Nat.le_of_ble_eq_true rfl) (Nat.le_of_ble_eq_true rfl) (fun q0 => ?_)
  refine v_eq (ws' := [(b, .inr (2, [.null, .null, .null, .int 0, .int 0, .int 0])), (q0, .inl (g.2.2.2.2.1, 32, .inl (fun _ => 0)))]) rfl ?_
  refine v_putF (ws' := [(b, .inr (2, [.ref q0, .null, .null, .int 0, .int 0, .int 0])), (q0, .inl (g.2.2.2.2.1, 32, .inl (fun _ => 0)))]) (q0 := 0) hC hnm DX2_init_9 G_X2_11 Ff_2_0 rfl rfl rfl (Nat.le_of_ble_eq_true rfl) rfl ?_
  refine v_aload_n hC DX2_init_12 (i := 0) rfl rfl ?_
  refine v_bipush hC DX2_init_13 (v := 32) (by decide) ?_
  refine v_newj (N' := 32) hC hA DX2_init_15 AC_long (by decide) (by decide) (by decide) (Nat.le_of_ble_eq_true rfl) (Nat.le_of_ble_eq_true rfl) (fun q1 => ?_)
  refine v_eq (ws' := [(b, .inr (2, [.ref q0, .null, .null, .int 0, .int 0, .int 0])), (q0, .inl (g.2.2.2.2.1, 32, .inl (fun _ => 0))), (q1, .inl (g.2.2.2.2.2.1, 32, .inr (.inl (fun _ => 0))))]) rfl ?_
  refine v_putF (ws' := [(b, .inr (2, [.ref q0, .ref q1, .null, .int 0, .int 0, .int 0])), (q0, .inl (g.2.2.2.2.1, 32, .inl (fun _ => 0))), (q1, .inl (g.2.2.2.2.2.1, 32, .inr (.inl (fun _ => 0))))]) (q0 := 0) hC hnm DX2_init_17 G_X2_15 Ff_2_1 rfl rfl rfl (Nat.le_of_ble_eq_true rfl) rfl ?_
  refine v_aload_n hC DX2_init_20 (i := 0) rfl rfl ?_
  refine v_bipush hC DX2_init_21 (v := 33) (by decide) ?_
  refine v_newi (N' := 33) hC hA DX2_init_23 AC_int (by decide) (by decide) (by decide) (Nat.le_of_ble_eq_true rfl) (Nat.le_of_ble_eq_true rfl) (fun q2 => ?_)
  refine v_eq (ws' := [(b, .inr (2, [.ref q0, .ref q1, .null, .int 0, .int 0, .int 0])), (q0, .inl (g.2.2.2.2.1, 32, .inl (fun _ => 0))), (q1, .inl (g.2.2.2.2.2.1, 32, .inr (.inl (fun _ => 0)))), (q2, .inl (g.2.2.2.2.1, 33, .inl (fun _ => 0)))]) rfl ?_
  refine v_putF (ws' := [(b, .inr (2, [.ref q0, .ref q1, .ref q2, .int 0, .int 0, .int 0])), (q0, .inl (g.2.2.2.2.1, 32, .inl (fun _ => 0))), (q1, .inl (g.2.2.2.2.2.1, 32, .inr (.inl (fun _ => 0)))), (q2, .inl (g.2.2.2.2.1, 33, .inl (fun _ => 0)))]) (q0 := 0) hC hnm DX2_init_25 G_X2_19 Ff_2_2 rfl rfl rfl (Nat.le_of_ble_eq_true rfl) rfl ?_
  refine v_aload_n hC DX2_init_28 (i := 0) rfl rfl ?_
  refine v_iconst hC DX2_init_29 (v := 0) (by decide) ?_
  refine v_put (ws' := [(b, .inr (2, [.ref q0, .ref q1, .ref q2, .int 0, .int 0, .int 0])), (q0, .inl (g.2.2.2.2.1, 32, .inl (fun _ => 0))), (q1, .inl (g.2.2.2.2.2.1, 32, .inr (.inl (fun _ => 0)))), (q2, .inl (g.2.2.2.2.1, 33, .inl (fun _ => 0)))]) (q0 := 0) hC DX2_init_30 G_X2_22 Fq_2_3 rfl rfl rfl (Nat.le_of_ble_eq_true rfl) rfl ?_
  refine v_aload_n hC DX2_init_33 (i := 0) rfl rfl ?_
  refine v_iconst hC DX2_init_34 (v := (-1)) (by decide) ?_
  refine v_put (ws' := [(b, .inr (2, [.ref q0, .ref q1, .ref q2, .int 0, .int (-1), .int 0])), (q0, .inl (g.2.2.2.2.1, 32, .inl (fun _ => 0))), (q1, .inl (g.2.2.2.2.2.1, 32, .inr (.inl (fun _ => 0)))), (q2, .inl (g.2.2.2.2.1, 33, .inl (fun _ => 0)))]) (q0 := 0) hC DX2_init_35 G_X2_26 Fq_2_4 rfl rfl rfl (Nat.le_of_ble_eq_true rfl) rfl ?_
  refine v_aload_n hC DX2_init_38 (i := 0) rfl rfl ?_
  refine v_iconst hC DX2_init_39 (v := 0) (by decide) ?_
  refine v_put (ws' := [(b, .inr (2, [.ref q0, .ref q1, .ref q2, .int 0, .int (-1), .int 0])), (q0, .inl (g.2.2.2.2.1, 32, .inl (fun _ => 0))), (q1, .inl (g.2.2.2.2.2.1, 32, .inr (.inl (fun _ => 0)))), (q2, .inl (g.2.2.2.2.1, 33, .inl (fun _ => 0)))]) (q0 := 0) hC DX2_init_40 G_X2_29 Fq_2_5 rfl rfl rfl (Nat.le_of_ble_eq_true rfl) rfl ?_
  exact v_vret hC DX2_init_43 rfl ⟨q0, q1, q2, rfl⟩
set_option maxRecDepth 100000 in
set_option maxHeartbeats 4000000 in
theorem k_X0_init {l : Launch} {g : xG} {b : Nat} : Cw l g { frames := 2, cells := 3, slots := 131, locals := 60 } yX0_init M_X0_init [.ref b] [(b, .inr (0, [.null, .null, .null, .int 0, .int 0, .int 0, .int 0, .long 0]))] 3 131 (fun w => ∃ q0 q1 q2 : Nat, w = [(b, .inr (0, [.ref q0, .ref q1, .ref q2, .int 0, .int 0, .int 0, .int (-1), .long 0])), (q0, .inl (g.2.2.2.2.1, 64, .inl (fun _ => 0))), (q1, .inl (g.2.2.2.2.1, 64, .inl (fun _ => 0))), (q2, .inl (g.2.2.2.2.1, 3, .inl (fun _ => 0)))]) := by
  refine Cw.of 0 (L0 := [some (.ref b)]) (by decide) rfl (Nat.le_of_ble_eq_true rfl) rfl ?_
  intro p e u m args below meth c A hC hnm hA hN hAO
  refine v_aload_n hC DX0_init_0 (i := 0) rfl rfl ?_
  refine v_objInit hC DX0_init_1 OL_X0_3 OI_1 OI_2 (by decide) (Nat.le_of_ble_eq_true rfl) ?_
  refine v_aload_n hC DX0_init_4 (i := 0) rfl rfl ?_
  refine v_bipush hC DX0_init_5 (v := 64) (by decide) ?_
  refine v_newi (N' := 64) hC hA DX0_init_7 AC_int (by decide) (by decide) (by decide) (Nat.le_of_ble_eq_true rfl) (Nat.le_of_ble_eq_true rfl) (fun q0 => ?_)
  refine v_eq (ws' := [(b, .inr (0, [.null, .null, .null, .int 0, .int 0, .int 0, .int 0, .long 0])), (q0, .inl (g.2.2.2.2.1, 64, .inl (fun _ => 0)))]) rfl ?_
  refine v_putF (ws' := [(b, .inr (0, [.ref q0, .null, .null, .int 0, .int 0, .int 0, .int 0, .long 0])), (q0, .inl (g.2.2.2.2.1, 64, .inl (fun _ => 0)))]) (q0 := 0) hC hnm DX0_init_9 G_X0_9 Ff_0_0 rfl rfl rfl (Nat.le_of_ble_eq_true rfl) rfl ?_
  refine v_aload_n hC DX0_init_12 (i := 0) rfl rfl ?_
  refine v_bipush hC DX0_init_13 (v := 64) (by decide) ?_
  refine v_newi (N' := 64) hC hA DX0_init_15 AC_int (by decide) (by decide) (by decide) (Nat.le_of_ble_eq_true rfl) (Nat.le_of_ble_eq_true rfl) (fun q1 => ?_)
  refine v_eq (ws' := [(b, .inr (0, [.ref q0, .null, .null, .int 0, .int 0, .int 0, .int 0, .long 0])), (q0, .inl (g.2.2.2.2.1, 64, .inl (fun _ => 0))), (q1, .inl (g.2.2.2.2.1, 64, .inl (fun _ => 0)))]) rfl ?_
  refine v_putF (ws' := [(b, .inr (0, [.ref q0, .ref q1, .null, .int 0, .int 0, .int 0, .int 0, .long 0])), (q0, .inl (g.2.2.2.2.1, 64, .inl (fun _ => 0))), (q1, .inl (g.2.2.2.2.1, 64, .inl (fun _ => 0)))]) (q0 := 0) hC hnm DX0_init_17 G_X0_15 Ff_0_1 rfl rfl rfl (Nat.le_of_ble_eq_true rfl) rfl ?_
  refine v_aload_n hC DX0_init_20 (i := 0) rfl rfl ?_
  refine v_iconst hC DX0_init_21 (v := 3) (by decide) ?_
  refine v_newi (N' := 3) hC hA DX0_init_22 AC_int (by decide) (by decide) (by decide) (Nat.le_of_ble_eq_true rfl) (Nat.le_of_ble_eq_true rfl) (fun q2 => ?_)
  refine v_eq (ws' := [(b, .inr (0, [.ref q0, .ref q1, .null, .int 0, .int 0, .int 0, .int 0, .long 0])), (q0, .inl (g.2.2.2.2.1, 64, .inl (fun _ => 0))), (q1, .inl (g.2.2.2.2.1, 64, .inl (fun _ => 0))), (q2, .inl (g.2.2.2.2.1, 3, .inl (fun _ => 0)))]) rfl ?_
  refine v_putF (ws' := [(b, .inr (0, [.ref q0, .ref q1, .ref q2, .int 0, .int 0, .int 0, .int 0, .long 0])), (q0, .inl (g.2.2.2.2.1, 64, .inl (fun _ => 0))), (q1, .inl (g.2.2.2.2.1, 64, .inl (fun _ => 0))), (q2, .inl (g.2.2.2.2.1, 3, .inl (fun _ => 0)))]) (q0 := 0) hC hnm DX0_init_24 G_X0_18 Ff_0_2 rfl rfl rfl (Nat.le_of_ble_eq_true rfl) rfl ?_
  refine v_aload_n hC DX0_init_27 (i := 0) rfl rfl ?_
  refine v_iconst hC DX0_init_28 (v := 0) (by decide) ?_
  refine v_put (ws' := [(b, .inr (0, [.ref q0, .ref q1, .ref q2, .int 0, .int 0, .int 0, .int 0, .long 0])), (q0, .inl (g.2.2.2.2.1, 64, .inl (fun _ => 0))), (q1, .inl (g.2.2.2.2.1, 64, .inl (fun _ => 0))), (q2, .inl (g.2.2.2.2.1, 3, .inl (fun _ => 0)))]) (q0 := 0) hC DX0_init_29 G_X0_21 Fq_0_3 rfl rfl rfl (Nat.le_of_ble_eq_true rfl) rfl ?_
  refine v_aload_n hC DX0_init_32 (i := 0) rfl rfl ?_
  refine v_iconst hC DX0_init_33 (v := 0) (by decide) ?_
  refine v_put (ws' := [(b, .inr (0, [.ref q0, .ref q1, .ref q2, .int 0, .int 0, .int 0, .int 0, .long 0])), (q0, .inl (g.2.2.2.2.1, 64, .inl (fun _ => 0))), (q1, .inl (g.2.2.2.2.1, 64, .inl (fun _ => 0))), (q2, .inl (g.2.2.2.2.1, 3, .inl (fun _ => 0)))]) (q0 := 0) hC DX0_init_34 G_X0_25 Fq_0_4 rfl rfl rfl (Nat.le_of_ble_eq_true rfl) rfl ?_
  refine v_aload_n hC DX0_init_37 (i := 0) rfl rfl ?_
  refine v_iconst hC DX0_init_38 (v := 0) (by decide) ?_
  refine v_put (ws' := [(b, .inr (0, [.ref q0, .ref q1, .ref q2, .int 0, .int 0, .int 0, .int 0, .long 0])), (q0, .inl (g.2.2.2.2.1, 64, .inl (fun _ => 0))), (q1, .inl (g.2.2.2.2.1, 64, .inl (fun _ => 0))), (q2, .inl (g.2.2.2.2.1, 3, .inl (fun _ => 0)))]) (q0 := 0) hC DX0_init_39 G_X0_28 Fq_0_5 rfl rfl rfl (Nat.le_of_ble_eq_true rfl) rfl ?_
  refine v_aload_n hC DX0_init_42 (i := 0) rfl rfl ?_
  refine v_iconst hC DX0_init_43 (v := (-1)) (by decide) ?_
  refine v_put (ws' := [(b, .inr (0, [.ref q0, .ref q1, .ref q2, .int 0, .int 0, .int 0, .int (-1), .long 0])), (q0, .inl (g.2.2.2.2.1, 64, .inl (fun _ => 0))), (q1, .inl (g.2.2.2.2.1, 64, .inl (fun _ => 0))), (q2, .inl (g.2.2.2.2.1, 3, .inl (fun _ => 0)))]) (q0 := 0) hC DX0_init_44 G_X0_31 Fq_0_6 rfl rfl rfl (Nat.le_of_ble_eq_true rfl) rfl ?_
  refine v_aload_n hC DX0_init_47 (i := 0) rfl rfl ?_
  refine v_lconst hC DX0_init_48 (v := 0) (by decide) ?_
  refine v_put (ws' := [(b, .inr (0, [.ref q0, .ref q1, .ref q2, .int 0, .int 0, .int 0, .int (-1), .long 0])), (q0, .inl (g.2.2.2.2.1, 64, .inl (fun _ => 0))), (q1, .inl (g.2.2.2.2.1, 64, .inl (fun _ => 0))), (q2, .inl (g.2.2.2.2.1, 3, .inl (fun _ => 0)))]) (q0 := 0) hC DX0_init_49 G_X0_34 Fq_0_7 rfl rfl rfl (Nat.le_of_ble_eq_true rfl) rfl ?_
  exact v_vret hC DX0_init_52 rfl ⟨q0, q1, q2, rfl⟩
set_option maxRecDepth 100000 in
set_option maxHeartbeats 8000000 in
theorem k_X7_init {l : Launch} {g : xG} {b : Nat} : Cw l g { frames := 4, cells := 43, slots := 1759, locals := 150 } yX7_init M_X7_init [.ref b] [(b, .inr (7, [.null, .null, .null, .null, .null, .null, .null, .null]))] 43 1759 (fun w => ∃ ad : Nat → Nat, ad 0 = b ∧ w = xw1 (x_ad g ad) a0) := by
  refine Cw.of 1 (L0 := [some (.ref b), none]) (by decide) rfl (Nat.le_of_ble_eq_true rfl) rfl ?_
  intro p e u m args below meth c A hC hnm hA hN hAO
  refine v_aload_n hC DX7_init_0 (i := 0) rfl rfl ?_
  refine v_objInit hC DX7_init_1 OL_X7_3 OI_1 OI_2 (by decide) (Nat.le_of_ble_eq_true rfl) ?_
  refine v_aload_n hC DX7_init_4 (i := 0) rfl rfl ?_
  refine v_new (ty := tyX1) (fs := [.int 0, .int 0, .int 0, .int 0]) hC hA DX7_init_5 i_X1 tyX1_ok CN_X7_9 IN_X1.1 IN_X1.2 (ci := 1) rfl DF_X1 (Nat.le_of_ble_eq_true rfl) (Nat.le_of_ble_eq_true rfl) (fun q0 => ?_)
  refine v_eq (ws' := [(b, .inr (7, [.null, .null, .null, .null, .null, .null, .null, .null])), (q0, .inr (1, [.int 0, .int 0, .int 0, .int 0]))]) rfl ?_
  refine v_dup hC DX7_init_8 rfl ?_
  refine v_callIN (wr := [(b, .inr (7, [.null, .null, .null, .null, .null, .null, .null, .null]))]) [1] [0] hC hA hN hAO DX7_init_9 CI_X1_init "PodMarks" (by decide) (k_X1_init (b := q0)) rfl rfl (by decide) (by decide) (by decide) rfl rfl (by decide) (by decide) (Nat.le_of_ble_eq_true rfl) (Nat.le_of_ble_eq_true rfl) (Nat.le_of_ble_eq_true rfl) (fun w hw => ?_)
  subst hw
  refine v_eq (ws' := [(b, .inr (7, [.null, .null, .null, .null, .null, .null, .null, .null])), (q0, .inr (1, [.int 7, .int 0, .int 1, .int 0]))]) rfl ?_
  refine v_putF (ws' := [(b, .inr (7, [.ref q0, .null, .null, .null, .null, .null, .null, .null])), (q0, .inr (1, [.int 7, .int 0, .int 1, .int 0]))]) (q0 := 0) hC hnm DX7_init_12 G_X7_12 Ff_7_0 rfl rfl rfl (Nat.le_of_ble_eq_true rfl) rfl ?_
  refine v_aload_n hC DX7_init_15 (i := 0) rfl rfl ?_
  refine v_bipush hC DX7_init_16 (v := 6) (by decide) ?_
  refine v_newq (N' := 6) hC hA DX7_init_18 CL_X7_16 hAO (by decide) (by decide) (by decide) (Nat.le_of_ble_eq_true rfl) (Nat.le_of_ble_eq_true rfl) (fun q1 => ?_)
  refine v_eq (ws' := [(b, .inr (7, [.ref q0, .null, .null, .null, .null, .null, .null, .null])), (q0, .inr (1, [.int 7, .int 0, .int 1, .int 0])), (q1, .inl (g.2.2.2.2.2.2.2, 6, .inr (.inr (.inr (.inr (fun _ => none))))))]) rfl ?_
  refine v_putF (ws' := [(b, .inr (7, [.ref q0, .ref q1, .null, .null, .null, .null, .null, .null])), (q0, .inr (1, [.int 7, .int 0, .int 1, .int 0])), (q1, .inl (g.2.2.2.2.2.2.2, 6, .inr (.inr (.inr (.inr (fun _ => none))))))]) (q0 := 0) hC hnm DX7_init_21 G_X7_18 Ff_7_1 rfl rfl rfl (Nat.le_of_ble_eq_true rfl) rfl ?_
  refine v_aload_n hC DX7_init_24 (i := 0) rfl rfl ?_
  refine v_new (ty := tyX3) (fs := [.null, .null, .int 0]) hC hA DX7_init_25 i_X3 tyX3_ok CN_X7_16 IN_X3.1 IN_X3.2 (ci := 3) rfl DF_X3 (Nat.le_of_ble_eq_true rfl) (Nat.le_of_ble_eq_true rfl) (fun q2 => ?_)
  refine v_eq (ws' := [(b, .inr (7, [.ref q0, .ref q1, .null, .null, .null, .null, .null, .null])), (q0, .inr (1, [.int 7, .int 0, .int 1, .int 0])), (q1, .inl (g.2.2.2.2.2.2.2, 6, .inr (.inr (.inr (.inr (fun _ => none)))))), (q2, .inr (3, [.null, .null, .int 0]))]) rfl ?_
  refine v_dup hC DX7_init_28 rfl ?_
  refine v_callIN (wr := [(b, .inr (7, [.ref q0, .ref q1, .null, .null, .null, .null, .null, .null])), (q0, .inr (1, [.int 7, .int 0, .int 1, .int 0])), (q1, .inl (g.2.2.2.2.2.2.2, 6, .inr (.inr (.inr (.inr (fun _ => none))))))]) [3] [0, 1, 2] hC hA hN hAO DX7_init_29 CI_X3_init "PodMarks" (by decide) (k_X3_init (b := q2)) rfl rfl (by decide) (by decide) (by decide) rfl rfl (by decide) (by decide) (Nat.le_of_ble_eq_true rfl) (Nat.le_of_ble_eq_true rfl) (Nat.le_of_ble_eq_true rfl) (fun w hw => ?_)
  obtain ⟨q3, q4, rfl⟩ := hw
  refine v_eq (ws' := [(b, .inr (7, [.ref q0, .ref q1, .null, .null, .null, .null, .null, .null])), (q0, .inr (1, [.int 7, .int 0, .int 1, .int 0])), (q1, .inl (g.2.2.2.2.2.2.2, 6, .inr (.inr (.inr (.inr (fun _ => none)))))), (q2, .inr (3, [.ref q3, .ref q4, .int 0])), (q3, .inl (g.2.2.2.2.1, 64, .inl (fun _ => 0))), (q4, .inl (g.2.2.2.2.2.1, 64, .inr (.inl (fun _ => 0))))]) rfl ?_
  refine v_putF (ws' := [(b, .inr (7, [.ref q0, .ref q1, .ref q2, .null, .null, .null, .null, .null])), (q0, .inr (1, [.int 7, .int 0, .int 1, .int 0])), (q1, .inl (g.2.2.2.2.2.2.2, 6, .inr (.inr (.inr (.inr (fun _ => none)))))), (q2, .inr (3, [.ref q3, .ref q4, .int 0])), (q3, .inl (g.2.2.2.2.1, 64, .inl (fun _ => 0))), (q4, .inl (g.2.2.2.2.2.1, 64, .inr (.inl (fun _ => 0))))]) (q0 := 0) hC hnm DX7_init_32 G_X7_23 Ff_7_2 rfl rfl rfl (Nat.le_of_ble_eq_true rfl) rfl ?_
  refine v_aload_n hC DX7_init_35 (i := 0) rfl rfl ?_
  refine v_new (ty := tyX4) (fs := [.null, .null, .int 0]) hC hA DX7_init_36 i_X4 tyX4_ok CN_X7_27 IN_X4.1 IN_X4.2 (ci := 4) rfl DF_X4 (Nat.le_of_ble_eq_true rfl) (Nat.le_of_ble_eq_true rfl) (fun q5 => ?_)
  refine v_eq (ws' := [(b, .inr (7, [.ref q0, .ref q1, .ref q2, .null, .null, .null, .null, .null])), (q0, .inr (1, [.int 7, .int 0, .int 1, .int 0])), (q1, .inl (g.2.2.2.2.2.2.2, 6, .inr (.inr (.inr (.inr (fun _ => none)))))), (q2, .inr (3, [.ref q3, .ref q4, .int 0])), (q3, .inl (g.2.2.2.2.1, 64, .inl (fun _ => 0))), (q4, .inl (g.2.2.2.2.2.1, 64, .inr (.inl (fun _ => 0)))), (q5, .inr (4, [.null, .null, .int 0]))]) rfl ?_
  refine v_dup hC DX7_init_39 rfl ?_
  refine v_callI (wr := [(b, .inr (7, [.ref q0, .ref q1, .ref q2, .null, .null, .null, .null, .null])), (q0, .inr (1, [.int 7, .int 0, .int 1, .int 0])), (q1, .inl (g.2.2.2.2.2.2.2, 6, .inr (.inr (.inr (.inr (fun _ => none)))))), (q2, .inr (3, [.ref q3, .ref q4, .int 0])), (q3, .inl (g.2.2.2.2.1, 64, .inl (fun _ => 0))), (q4, .inl (g.2.2.2.2.2.1, 64, .inr (.inl (fun _ => 0))))]) [6] [0, 1, 2, 3, 4, 5] hC hA hN hAO DX7_init_40 CI_X4_init ML_X7_29 (k_X4_init (b := q5)) rfl rfl (by decide) (by decide) (by decide) rfl rfl (by decide) (by decide) (Nat.le_of_ble_eq_true rfl) (Nat.le_of_ble_eq_true rfl) (Nat.le_of_ble_eq_true rfl) (fun w hw => ?_)
  obtain ⟨q6, q7, rfl⟩ := hw
  refine v_eq (ws' := [(b, .inr (7, [.ref q0, .ref q1, .ref q2, .null, .null, .null, .null, .null])), (q0, .inr (1, [.int 7, .int 0, .int 1, .int 0])), (q1, .inl (g.2.2.2.2.2.2.2, 6, .inr (.inr (.inr (.inr (fun _ => none)))))), (q2, .inr (3, [.ref q3, .ref q4, .int 0])), (q3, .inl (g.2.2.2.2.1, 64, .inl (fun _ => 0))), (q4, .inl (g.2.2.2.2.2.1, 64, .inr (.inl (fun _ => 0)))), (q5, .inr (4, [.ref q6, .ref q7, .int 0])), (q7, .inl (g.2.2.2.2.2.1, 64, .inr (.inl (fun _ => 0)))), (q6, .inl (g.2.2.2.2.1, 12, .inl (ffill 12)))]) rfl ?_
  refine v_putF (ws' := [(b, .inr (7, [.ref q0, .ref q1, .ref q2, .ref q5, .null, .null, .null, .null])), (q0, .inr (1, [.int 7, .int 0, .int 1, .int 0])), (q1, .inl (g.2.2.2.2.2.2.2, 6, .inr (.inr (.inr (.inr (fun _ => none)))))), (q2, .inr (3, [.ref q3, .ref q4, .int 0])), (q3, .inl (g.2.2.2.2.1, 64, .inl (fun _ => 0))), (q4, .inl (g.2.2.2.2.2.1, 64, .inr (.inl (fun _ => 0)))), (q5, .inr (4, [.ref q6, .ref q7, .int 0])), (q7, .inl (g.2.2.2.2.2.1, 64, .inr (.inl (fun _ => 0)))), (q6, .inl (g.2.2.2.2.1, 12, .inl (ffill 12)))]) (q0 := 0) hC hnm DX7_init_43 G_X7_30 Ff_7_3 rfl rfl rfl (Nat.le_of_ble_eq_true rfl) rfl ?_
  refine v_aload_n hC DX7_init_46 (i := 0) rfl rfl ?_
  refine v_new (ty := tyX6) (fs := [.null, .int 0, .int 0, .int 0, .int 0]) hC hA DX7_init_47 i_X6 tyX6_ok CN_X7_34 IN_X6.1 IN_X6.2 (ci := 6) rfl DF_X6 (Nat.le_of_ble_eq_true rfl) (Nat.le_of_ble_eq_true rfl) (fun q8 => ?_)
  refine v_eq (ws' := [(b, .inr (7, [.ref q0, .ref q1, .ref q2, .ref q5, .null, .null, .null, .null])), (q0, .inr (1, [.int 7, .int 0, .int 1, .int 0])), (q1, .inl (g.2.2.2.2.2.2.2, 6, .inr (.inr (.inr (.inr (fun _ => none)))))), (q2, .inr (3, [.ref q3, .ref q4, .int 0])), (q3, .inl (g.2.2.2.2.1, 64, .inl (fun _ => 0))), (q4, .inl (g.2.2.2.2.2.1, 64, .inr (.inl (fun _ => 0)))), (q5, .inr (4, [.ref q6, .ref q7, .int 0])), (q7, .inl (g.2.2.2.2.2.1, 64, .inr (.inl (fun _ => 0)))), (q6, .inl (g.2.2.2.2.1, 12, .inl (ffill 12))), (q8, .inr (6, [.null, .int 0, .int 0, .int 0, .int 0]))]) rfl ?_
  refine v_dup hC DX7_init_50 rfl ?_
  refine v_callIN (wr := [(b, .inr (7, [.ref q0, .ref q1, .ref q2, .ref q5, .null, .null, .null, .null])), (q0, .inr (1, [.int 7, .int 0, .int 1, .int 0])), (q1, .inl (g.2.2.2.2.2.2.2, 6, .inr (.inr (.inr (.inr (fun _ => none)))))), (q2, .inr (3, [.ref q3, .ref q4, .int 0])), (q3, .inl (g.2.2.2.2.1, 64, .inl (fun _ => 0))), (q4, .inl (g.2.2.2.2.2.1, 64, .inr (.inl (fun _ => 0)))), (q5, .inr (4, [.ref q6, .ref q7, .int 0])), (q7, .inl (g.2.2.2.2.2.1, 64, .inr (.inl (fun _ => 0)))), (q6, .inl (g.2.2.2.2.1, 12, .inl (ffill 12)))]) [9] [0, 1, 2, 3, 4, 5, 6, 7, 8] hC hA hN hAO DX7_init_51 CI_X6_init "PodMarks" (by decide) (k_X6_init (b := q8)) rfl rfl (by decide) (by decide) (by decide) rfl rfl (by decide) (by decide) (Nat.le_of_ble_eq_true rfl) (Nat.le_of_ble_eq_true rfl) (Nat.le_of_ble_eq_true rfl) (fun w hw => ?_)
  obtain ⟨q9, rfl⟩ := hw
  refine v_eq (ws' := [(b, .inr (7, [.ref q0, .ref q1, .ref q2, .ref q5, .null, .null, .null, .null])), (q0, .inr (1, [.int 7, .int 0, .int 1, .int 0])), (q1, .inl (g.2.2.2.2.2.2.2, 6, .inr (.inr (.inr (.inr (fun _ => none)))))), (q2, .inr (3, [.ref q3, .ref q4, .int 0])), (q3, .inl (g.2.2.2.2.1, 64, .inl (fun _ => 0))), (q4, .inl (g.2.2.2.2.2.1, 64, .inr (.inl (fun _ => 0)))), (q5, .inr (4, [.ref q6, .ref q7, .int 0])), (q7, .inl (g.2.2.2.2.2.1, 64, .inr (.inl (fun _ => 0)))), (q6, .inl (g.2.2.2.2.1, 12, .inl (ffill 12))), (q8, .inr (6, [.ref q9, .int 0, .int 0, .int 0, .int 0])), (q9, .inl (g.2.2.2.2.1, 120, .inl (fun _ => 0)))]) rfl ?_
  refine v_putF (ws' := [(b, .inr (7, [.ref q0, .ref q1, .ref q2, .ref q5, .ref q8, .null, .null, .null])), (q0, .inr (1, [.int 7, .int 0, .int 1, .int 0])), (q1, .inl (g.2.2.2.2.2.2.2, 6, .inr (.inr (.inr (.inr (fun _ => none)))))), (q2, .inr (3, [.ref q3, .ref q4, .int 0])), (q3, .inl (g.2.2.2.2.1, 64, .inl (fun _ => 0))), (q4, .inl (g.2.2.2.2.2.1, 64, .inr (.inl (fun _ => 0)))), (q5, .inr (4, [.ref q6, .ref q7, .int 0])), (q7, .inl (g.2.2.2.2.2.1, 64, .inr (.inl (fun _ => 0)))), (q6, .inl (g.2.2.2.2.1, 12, .inl (ffill 12))), (q8, .inr (6, [.ref q9, .int 0, .int 0, .int 0, .int 0])), (q9, .inl (g.2.2.2.2.1, 120, .inl (fun _ => 0)))]) (q0 := 0) hC hnm DX7_init_54 G_X7_37 Ff_7_4 rfl rfl rfl (Nat.le_of_ble_eq_true rfl) rfl ?_
  refine v_aload_n hC DX7_init_57 (i := 0) rfl rfl ?_
  refine v_new (ty := tyX5) (fs := [.null, .null, .null, .int 0, .int 0, .int 0, .null, .null, .null, .int 0, .int 0]) hC hA DX7_init_58 i_X5 tyX5_ok CN_X7_41 IN_X5.1 IN_X5.2 (ci := 5) rfl DF_X5 (Nat.le_of_ble_eq_true rfl) (Nat.le_of_ble_eq_true rfl) (fun q10 => ?_)
  refine v_eq (ws' := [(b, .inr (7, [.ref q0, .ref q1, .ref q2, .ref q5, .ref q8, .null, .null, .null])), (q0, .inr (1, [.int 7, .int 0, .int 1, .int 0])), (q1, .inl (g.2.2.2.2.2.2.2, 6, .inr (.inr (.inr (.inr (fun _ => none)))))), (q2, .inr (3, [.ref q3, .ref q4, .int 0])), (q3, .inl (g.2.2.2.2.1, 64, .inl (fun _ => 0))), (q4, .inl (g.2.2.2.2.2.1, 64, .inr (.inl (fun _ => 0)))), (q5, .inr (4, [.ref q6, .ref q7, .int 0])), (q7, .inl (g.2.2.2.2.2.1, 64, .inr (.inl (fun _ => 0)))), (q6, .inl (g.2.2.2.2.1, 12, .inl (ffill 12))), (q8, .inr (6, [.ref q9, .int 0, .int 0, .int 0, .int 0])), (q9, .inl (g.2.2.2.2.1, 120, .inl (fun _ => 0))), (q10, .inr (5, [.null, .null, .null, .int 0, .int 0, .int 0, .null, .null, .null, .int 0, .int 0]))]) rfl ?_
  refine v_dup hC DX7_init_61 rfl ?_
  refine v_callIN (wr := [(b, .inr (7, [.ref q0, .ref q1, .ref q2, .ref q5, .ref q8, .null, .null, .null])), (q0, .inr (1, [.int 7, .int 0, .int 1, .int 0])), (q1, .inl (g.2.2.2.2.2.2.2, 6, .inr (.inr (.inr (.inr (fun _ => none)))))), (q2, .inr (3, [.ref q3, .ref q4, .int 0])), (q3, .inl (g.2.2.2.2.1, 64, .inl (fun _ => 0))), (q4, .inl (g.2.2.2.2.2.1, 64, .inr (.inl (fun _ => 0)))), (q5, .inr (4, [.ref q6, .ref q7, .int 0])), (q7, .inl (g.2.2.2.2.2.1, 64, .inr (.inl (fun _ => 0)))), (q6, .inl (g.2.2.2.2.1, 12, .inl (ffill 12))), (q8, .inr (6, [.ref q9, .int 0, .int 0, .int 0, .int 0])), (q9, .inl (g.2.2.2.2.1, 120, .inl (fun _ => 0)))]) [11] [0, 1, 2, 3, 4, 5, 6, 7, 8, 9, 10] hC hA hN hAO DX7_init_62 CI_X5_init "PodMarks" (by decide) (k_X5_init (b := q10)) rfl rfl (by decide) (by decide) (by decide) rfl rfl (by decide) (by decide) (Nat.le_of_ble_eq_true rfl) (Nat.le_of_ble_eq_true rfl) (Nat.le_of_ble_eq_true rfl) (fun w hw => ?_)
  obtain ⟨q11, q12, q13, q14, q15, q16, rfl⟩ := hw
  refine v_eq (ws' := [(b, .inr (7, [.ref q0, .ref q1, .ref q2, .ref q5, .ref q8, .null, .null, .null])), (q0, .inr (1, [.int 7, .int 0, .int 1, .int 0])), (q1, .inl (g.2.2.2.2.2.2.2, 6, .inr (.inr (.inr (.inr (fun _ => none)))))), (q2, .inr (3, [.ref q3, .ref q4, .int 0])), (q3, .inl (g.2.2.2.2.1, 64, .inl (fun _ => 0))), (q4, .inl (g.2.2.2.2.2.1, 64, .inr (.inl (fun _ => 0)))), (q5, .inr (4, [.ref q6, .ref q7, .int 0])), (q7, .inl (g.2.2.2.2.2.1, 64, .inr (.inl (fun _ => 0)))), (q6, .inl (g.2.2.2.2.1, 12, .inl (ffill 12))), (q8, .inr (6, [.ref q9, .int 0, .int 0, .int 0, .int 0])), (q9, .inl (g.2.2.2.2.1, 120, .inl (fun _ => 0))), (q10, .inr (5, [.ref q11, .ref q12, .ref q13, .int 0, .int 0, .int (-1), .ref q14, .ref q15, .ref q16, .int 0, .int 1])), (q11, .inl (g.2.2.2.2.1, 120, .inl (fun _ => 0))), (q12, .inl (g.2.2.2.2.1, 120, .inl (fun _ => 0))), (q13, .inl (g.2.2.2.2.1, 120, .inl (fun _ => 0))), (q14, .inl (g.2.2.2.2.2.2.1, 5, .inl (fun _ => 0))), (q15, .inl (g.2.2.2.2.2.2.1, 5, .inl (fun _ => 0))), (q16, .inl (g.2.2.2.2.2.2.1, 5, .inl (fun _ => 0)))]) rfl ?_
  refine v_putF (ws' := [(b, .inr (7, [.ref q0, .ref q1, .ref q2, .ref q5, .ref q8, .ref q10, .null, .null])), (q0, .inr (1, [.int 7, .int 0, .int 1, .int 0])), (q1, .inl (g.2.2.2.2.2.2.2, 6, .inr (.inr (.inr (.inr (fun _ => none)))))), (q2, .inr (3, [.ref q3, .ref q4, .int 0])), (q3, .inl (g.2.2.2.2.1, 64, .inl (fun _ => 0))), (q4, .inl (g.2.2.2.2.2.1, 64, .inr (.inl (fun _ => 0)))), (q5, .inr (4, [.ref q6, .ref q7, .int 0])), (q7, .inl (g.2.2.2.2.2.1, 64, .inr (.inl (fun _ => 0)))), (q6, .inl (g.2.2.2.2.1, 12, .inl (ffill 12))), (q8, .inr (6, [.ref q9, .int 0, .int 0, .int 0, .int 0])), (q9, .inl (g.2.2.2.2.1, 120, .inl (fun _ => 0))), (q10, .inr (5, [.ref q11, .ref q12, .ref q13, .int 0, .int 0, .int (-1), .ref q14, .ref q15, .ref q16, .int 0, .int 1])), (q11, .inl (g.2.2.2.2.1, 120, .inl (fun _ => 0))), (q12, .inl (g.2.2.2.2.1, 120, .inl (fun _ => 0))), (q13, .inl (g.2.2.2.2.1, 120, .inl (fun _ => 0))), (q14, .inl (g.2.2.2.2.2.2.1, 5, .inl (fun _ => 0))), (q15, .inl (g.2.2.2.2.2.2.1, 5, .inl (fun _ => 0))), (q16, .inl (g.2.2.2.2.2.2.1, 5, .inl (fun _ => 0)))]) (q0 := 0) hC hnm DX7_init_65 G_X7_44 Ff_7_5 rfl rfl rfl (Nat.le_of_ble_eq_true rfl) rfl ?_
  refine v_aload_n hC DX7_init_68 (i := 0) rfl rfl ?_
  refine v_new (ty := tyX2) (fs := [.null, .null, .null, .int 0, .int 0, .int 0]) hC hA DX7_init_69 i_X2 tyX2_ok CN_X7_48 IN_X2.1 IN_X2.2 (ci := 2) rfl DF_X2 (Nat.le_of_ble_eq_true rfl) (Nat.le_of_ble_eq_true rfl) (fun q17 => ?_)
  refine v_eq (ws' := [(b, .inr (7, [.ref q0, .ref q1, .ref q2, .ref q5, .ref q8, .ref q10, .null, .null])), (q0, .inr (1, [.int 7, .int 0, .int 1, .int 0])), (q1, .inl (g.2.2.2.2.2.2.2, 6, .inr (.inr (.inr (.inr (fun _ => none)))))), (q2, .inr (3, [.ref q3, .ref q4, .int 0])), (q3, .inl (g.2.2.2.2.1, 64, .inl (fun _ => 0))), (q4, .inl (g.2.2.2.2.2.1, 64, .inr (.inl (fun _ => 0)))), (q5, .inr (4, [.ref q6, .ref q7, .int 0])), (q7, .inl (g.2.2.2.2.2.1, 64, .inr (.inl (fun _ => 0)))), (q6, .inl (g.2.2.2.2.1, 12, .inl (ffill 12))), (q8, .inr (6, [.ref q9, .int 0, .int 0, .int 0, .int 0])), (q9, .inl (g.2.2.2.2.1, 120, .inl (fun _ => 0))), (q10, .inr (5, [.ref q11, .ref q12, .ref q13, .int 0, .int 0, .int (-1), .ref q14, .ref q15, .ref q16, .int 0, .int 1])), (q11, .inl (g.2.2.2.2.1, 120, .inl (fun _ => 0))), (q12, .inl (g.2.2.2.2.1, 120, .inl (fun _ => 0))), (q13, .inl (g.2.2.2.2.1, 120, .inl (fun _ => 0))), (q14, .inl (g.2.2.2.2.2.2.1, 5, .inl (fun _ => 0))), (q15, .inl (g.2.2.2.2.2.2.1, 5, .inl (fun _ => 0))), (q16, .inl (g.2.2.2.2.2.2.1, 5, .inl (fun _ => 0))), (q17, .inr (2, [.null, .null, .null, .int 0, .int 0, .int 0]))]) rfl ?_
  refine v_dup hC DX7_init_72 rfl ?_
  refine v_callIN (wr := [(b, .inr (7, [.ref q0, .ref q1, .ref q2, .ref q5, .ref q8, .ref q10, .null, .null])), (q0, .inr (1, [.int 7, .int 0, .int 1, .int 0])), (q1, .inl (g.2.2.2.2.2.2.2, 6, .inr (.inr (.inr (.inr (fun _ => none)))))), (q2, .inr (3, [.ref q3, .ref q4, .int 0])), (q3, .inl (g.2.2.2.2.1, 64, .inl (fun _ => 0))), (q4, .inl (g.2.2.2.2.2.1, 64, .inr (.inl (fun _ => 0)))), (q5, .inr (4, [.ref q6, .ref q7, .int 0])), (q7, .inl (g.2.2.2.2.2.1, 64, .inr (.inl (fun _ => 0)))), (q6, .inl (g.2.2.2.2.1, 12, .inl (ffill 12))), (q8, .inr (6, [.ref q9, .int 0, .int 0, .int 0, .int 0])), (q9, .inl (g.2.2.2.2.1, 120, .inl (fun _ => 0))), (q10, .inr (5, [.ref q11, .ref q12, .ref q13, .int 0, .int 0, .int (-1), .ref q14, .ref q15, .ref q16, .int 0, .int 1])), (q11, .inl (g.2.2.2.2.1, 120, .inl (fun _ => 0))), (q12, .inl (g.2.2.2.2.1, 120, .inl (fun _ => 0))), (q13, .inl (g.2.2.2.2.1, 120, .inl (fun _ => 0))), (q14, .inl (g.2.2.2.2.2.2.1, 5, .inl (fun _ => 0))), (q15, .inl (g.2.2.2.2.2.2.1, 5, .inl (fun _ => 0))), (q16, .inl (g.2.2.2.2.2.2.1, 5, .inl (fun _ => 0)))]) [18] [0, 1, 2, 3, 4, 5, 6, 7, 8, 9, 10, 11, 12, 13, 14, 15, 16, 17] hC hA hN hAO DX7_init_73 CI_X2_init "PodMarks" (by decide) (k_X2_init (b := q17)) rfl rfl (by decide) (by decide) (by decide) rfl rfl (by decide) (by decide) (Nat.le_of_ble_eq_true rfl) (Nat.le_of_ble_eq_true rfl) (Nat.le_of_ble_eq_true rfl) (fun w hw => ?_)
  obtain ⟨q18, q19, q20, rfl⟩ := hw
  refine v_eq (ws' := [(b, .inr (7, [.ref q0, .ref q1, .ref q2, .ref q5, .ref q8, .ref q10, .null, .null])), (q0, .inr (1, [.int 7, .int 0, .int 1, .int 0])), (q1, .inl (g.2.2.2.2.2.2.2, 6, .inr (.inr (.inr (.inr (fun _ => none)))))), (q2, .inr (3, [.ref q3, .ref q4, .int 0])), (q3, .inl (g.2.2.2.2.1, 64, .inl (fun _ => 0))), (q4, .inl (g.2.2.2.2.2.1, 64, .inr (.inl (fun _ => 0)))), (q5, .inr (4, [.ref q6, .ref q7, .int 0])), (q7, .inl (g.2.2.2.2.2.1, 64, .inr (.inl (fun _ => 0)))), (q6, .inl (g.2.2.2.2.1, 12, .inl (ffill 12))), (q8, .inr (6, [.ref q9, .int 0, .int 0, .int 0, .int 0])), (q9, .inl (g.2.2.2.2.1, 120, .inl (fun _ => 0))), (q10, .inr (5, [.ref q11, .ref q12, .ref q13, .int 0, .int 0, .int (-1), .ref q14, .ref q15, .ref q16, .int 0, .int 1])), (q11, .inl (g.2.2.2.2.1, 120, .inl (fun _ => 0))), (q12, .inl (g.2.2.2.2.1, 120, .inl (fun _ => 0))), (q13, .inl (g.2.2.2.2.1, 120, .inl (fun _ => 0))), (q14, .inl (g.2.2.2.2.2.2.1, 5, .inl (fun _ => 0))), (q15, .inl (g.2.2.2.2.2.2.1, 5, .inl (fun _ => 0))), (q16, .inl (g.2.2.2.2.2.2.1, 5, .inl (fun _ => 0))), (q17, .inr (2, [.ref q18, .ref q19, .ref q20, .int 0, .int (-1), .int 0])), (q18, .inl (g.2.2.2.2.1, 32, .inl (fun _ => 0))), (q19, .inl (g.2.2.2.2.2.1, 32, .inr (.inl (fun _ => 0)))), (q20, .inl (g.2.2.2.2.1, 33, .inl (fun _ => 0)))]) rfl ?_
  refine v_putF (ws' := [(b, .inr (7, [.ref q0, .ref q1, .ref q2, .ref q5, .ref q8, .ref q10, .ref q17, .null])), (q0, .inr (1, [.int 7, .int 0, .int 1, .int 0])), (q1, .inl (g.2.2.2.2.2.2.2, 6, .inr (.inr (.inr (.inr (fun _ => none)))))), (q2, .inr (3, [.ref q3, .ref q4, .int 0])), (q3, .inl (g.2.2.2.2.1, 64, .inl (fun _ => 0))), (q4, .inl (g.2.2.2.2.2.1, 64, .inr (.inl (fun _ => 0)))), (q5, .inr (4, [.ref q6, .ref q7, .int 0])), (q7, .inl (g.2.2.2.2.2.1, 64, .inr (.inl (fun _ => 0)))), (q6, .inl (g.2.2.2.2.1, 12, .inl (ffill 12))), (q8, .inr (6, [.ref q9, .int 0, .int 0, .int 0, .int 0])), (q9, .inl (g.2.2.2.2.1, 120, .inl (fun _ => 0))), (q10, .inr (5, [.ref q11, .ref q12, .ref q13, .int 0, .int 0, .int (-1), .ref q14, .ref q15, .ref q16, .int 0, .int 1])), (q11, .inl (g.2.2.2.2.1, 120, .inl (fun _ => 0))), (q12, .inl (g.2.2.2.2.1, 120, .inl (fun _ => 0))), (q13, .inl (g.2.2.2.2.1, 120, .inl (fun _ => 0))), (q14, .inl (g.2.2.2.2.2.2.1, 5, .inl (fun _ => 0))), (q15, .inl (g.2.2.2.2.2.2.1, 5, .inl (fun _ => 0))), (q16, .inl (g.2.2.2.2.2.2.1, 5, .inl (fun _ => 0))), (q17, .inr (2, [.ref q18, .ref q19, .ref q20, .int 0, .int (-1), .int 0])), (q18, .inl (g.2.2.2.2.1, 32, .inl (fun _ => 0))), (q19, .inl (g.2.2.2.2.2.1, 32, .inr (.inl (fun _ => 0)))), (q20, .inl (g.2.2.2.2.1, 33, .inl (fun _ => 0)))]) (q0 := 0) hC hnm DX7_init_76 G_X7_51 Ff_7_6 rfl rfl rfl (Nat.le_of_ble_eq_true rfl) rfl ?_
  refine v_aload_n hC DX7_init_79 (i := 0) rfl rfl ?_
  refine v_new (ty := tyX0) (fs := [.null, .null, .null, .int 0, .int 0, .int 0, .int 0, .long 0]) hC hA DX7_init_80 i_X0 tyX0_ok CN_X7_55 IN_X0.1 IN_X0.2 (ci := 0) rfl DF_X0 (Nat.le_of_ble_eq_true rfl) (Nat.le_of_ble_eq_true rfl) (fun q21 => ?_)
  refine v_eq (ws' := [(b, .inr (7, [.ref q0, .ref q1, .ref q2, .ref q5, .ref q8, .ref q10, .ref q17, .null])), (q0, .inr (1, [.int 7, .int 0, .int 1, .int 0])), (q1, .inl (g.2.2.2.2.2.2.2, 6, .inr (.inr (.inr (.inr (fun _ => none)))))), (q2, .inr (3, [.ref q3, .ref q4, .int 0])), (q3, .inl (g.2.2.2.2.1, 64, .inl (fun _ => 0))), (q4, .inl (g.2.2.2.2.2.1, 64, .inr (.inl (fun _ => 0)))), (q5, .inr (4, [.ref q6, .ref q7, .int 0])), (q7, .inl (g.2.2.2.2.2.1, 64, .inr (.inl (fun _ => 0)))), (q6, .inl (g.2.2.2.2.1, 12, .inl (ffill 12))), (q8, .inr (6, [.ref q9, .int 0, .int 0, .int 0, .int 0])), (q9, .inl (g.2.2.2.2.1, 120, .inl (fun _ => 0))), (q10, .inr (5, [.ref q11, .ref q12, .ref q13, .int 0, .int 0, .int (-1), .ref q14, .ref q15, .ref q16, .int 0, .int 1])), (q11, .inl (g.2.2.2.2.1, 120, .inl (fun _ => 0))), (q12, .inl (g.2.2.2.2.1, 120, .inl (fun _ => 0))), (q13, .inl (g.2.2.2.2.1, 120, .inl (fun _ => 0))), (q14, .inl (g.2.2.2.2.2.2.1, 5, .inl (fun _ => 0))), (q15, .inl (g.2.2.2.2.2.2.1, 5, .inl (fun _ => 0))), (q16, .inl (g.2.2.2.2.2.2.1, 5, .inl (fun _ => 0))), (q17, .inr (2, [.ref q18, .ref q19, .ref q20, .int 0, .int (-1), .int 0])), (q18, .inl (g.2.2.2.2.1, 32, .inl (fun _ => 0))), (q19, .inl (g.2.2.2.2.2.1, 32, .inr (.inl (fun _ => 0)))), (q20, .inl (g.2.2.2.2.1, 33, .inl (fun _ => 0))), (q21, .inr (0, [.null, .null, .null, .int 0, .int 0, .int 0, .int 0, .long 0]))]) rfl ?_
  refine v_dup hC DX7_init_83 rfl ?_
  refine v_callIN (wr := [(b, .inr (7, [.ref q0, .ref q1, .ref q2, .ref q5, .ref q8, .ref q10, .ref q17, .null])), (q0, .inr (1, [.int 7, .int 0, .int 1, .int 0])), (q1, .inl (g.2.2.2.2.2.2.2, 6, .inr (.inr (.inr (.inr (fun _ => none)))))), (q2, .inr (3, [.ref q3, .ref q4, .int 0])), (q3, .inl (g.2.2.2.2.1, 64, .inl (fun _ => 0))), (q4, .inl (g.2.2.2.2.2.1, 64, .inr (.inl (fun _ => 0)))), (q5, .inr (4, [.ref q6, .ref q7, .int 0])), (q7, .inl (g.2.2.2.2.2.1, 64, .inr (.inl (fun _ => 0)))), (q6, .inl (g.2.2.2.2.1, 12, .inl (ffill 12))), (q8, .inr (6, [.ref q9, .int 0, .int 0, .int 0, .int 0])), (q9, .inl (g.2.2.2.2.1, 120, .inl (fun _ => 0))), (q10, .inr (5, [.ref q11, .ref q12, .ref q13, .int 0, .int 0, .int (-1), .ref q14, .ref q15, .ref q16, .int 0, .int 1])), (q11, .inl (g.2.2.2.2.1, 120, .inl (fun _ => 0))), (q12, .inl (g.2.2.2.2.1, 120, .inl (fun _ => 0))), (q13, .inl (g.2.2.2.2.1, 120, .inl (fun _ => 0))), (q14, .inl (g.2.2.2.2.2.2.1, 5, .inl (fun _ => 0))), (q15, .inl (g.2.2.2.2.2.2.1, 5, .inl (fun _ => 0))), (q16, .inl (g.2.2.2.2.2.2.1, 5, .inl (fun _ => 0))), (q17, .inr (2, [.ref q18, .ref q19, .ref q20, .int 0, .int (-1), .int 0])), (q18, .inl (g.2.2.2.2.1, 32, .inl (fun _ => 0))), (q19, .inl (g.2.2.2.2.2.1, 32, .inr (.inl (fun _ => 0)))), (q20, .inl (g.2.2.2.2.1, 33, .inl (fun _ => 0)))]) [22] [0, 1, 2, 3, 4, 5, 6, 7, 8, 9, 10, 11, 12, 13, 14, 15, 16, 17, 18, 19, 20, 21] hC hA hN hAO DX7_init_84 CI_X0_init "PodMarks" (by decide) (k_X0_init (b := q21)) rfl rfl (by decide) (by decide) (by decide) rfl rfl (by decide) (by decide) (Nat.le_of_ble_eq_true rfl) (Nat.le_of_ble_eq_true rfl) (Nat.le_of_ble_eq_true rfl) (fun w hw => ?_)
  obtain ⟨q22, q23, q24, rfl⟩ := hw
  refine v_eq (ws' := [(b, .inr (7, [.ref q0, .ref q1, .ref q2, .ref q5, .ref q8, .ref q10, .ref q17, .null])), (q0, .inr (1, [.int 7, .int 0, .int 1, .int 0])), (q1, .inl (g.2.2.2.2.2.2.2, 6, .inr (.inr (.inr (.inr (fun _ => none)))))), (q2, .inr (3, [.ref q3, .ref q4, .int 0])), (q3, .inl (g.2.2.2.2.1, 64, .inl (fun _ => 0))), (q4, .inl (g.2.2.2.2.2.1, 64, .inr (.inl (fun _ => 0)))), (q5, .inr (4, [.ref q6, .ref q7, .int 0])), (q7, .inl (g.2.2.2.2.2.1, 64, .inr (.inl (fun _ => 0)))), (q6, .inl (g.2.2.2.2.1, 12, .inl (ffill 12))), (q8, .inr (6, [.ref q9, .int 0, .int 0, .int 0, .int 0])), (q9, .inl (g.2.2.2.2.1, 120, .inl (fun _ => 0))), (q10, .inr (5, [.ref q11, .ref q12, .ref q13, .int 0, .int 0, .int (-1), .ref q14, .ref q15, .ref q16, .int 0, .int 1])), (q11, .inl (g.2.2.2.2.1, 120, .inl (fun _ => 0))), (q12, .inl (g.2.2.2.2.1, 120, .inl (fun _ => 0))), (q13, .inl (g.2.2.2.2.1, 120, .inl (fun _ => 0))), (q14, .inl (g.2.2.2.2.2.2.1, 5, .inl (fun _ => 0))), (q15, .inl (g.2.2.2.2.2.2.1, 5, .inl (fun _ => 0))), (q16, .inl (g.2.2.2.2.2.2.1, 5, .inl (fun _ => 0))), (q17, .inr (2, [.ref q18, .ref q19, .ref q20, .int 0, .int (-1), .int 0])), (q18, .inl (g.2.2.2.2.1, 32, .inl (fun _ => 0))), (q19, .inl (g.2.2.2.2.2.1, 32, .inr (.inl (fun _ => 0)))), (q20, .inl (g.2.2.2.2.1, 33, .inl (fun _ => 0))), (q21, .inr (0, [.ref q22, .ref q23, .ref q24, .int 0, .int 0, .int 0, .int (-1), .long 0])), (q22, .inl (g.2.2.2.2.1, 64, .inl (fun _ => 0))), (q23, .inl (g.2.2.2.2.1, 64, .inl (fun _ => 0))), (q24, .inl (g.2.2.2.2.1, 3, .inl (fun _ => 0)))]) rfl ?_
  refine v_putF (ws' := [(b, .inr (7, [.ref q0, .ref q1, .ref q2, .ref q5, .ref q8, .ref q10, .ref q17, .ref q21])), (q0, .inr (1, [.int 7, .int 0, .int 1, .int 0])), (q1, .inl (g.2.2.2.2.2.2.2, 6, .inr (.inr (.inr (.inr (fun _ => none)))))), (q2, .inr (3, [.ref q3, .ref q4, .int 0])), (q3, .inl (g.2.2.2.2.1, 64, .inl (fun _ => 0))), (q4, .inl (g.2.2.2.2.2.1, 64, .inr (.inl (fun _ => 0)))), (q5, .inr (4, [.ref q6, .ref q7, .int 0])), (q7, .inl (g.2.2.2.2.2.1, 64, .inr (.inl (fun _ => 0)))), (q6, .inl (g.2.2.2.2.1, 12, .inl (ffill 12))), (q8, .inr (6, [.ref q9, .int 0, .int 0, .int 0, .int 0])), (q9, .inl (g.2.2.2.2.1, 120, .inl (fun _ => 0))), (q10, .inr (5, [.ref q11, .ref q12, .ref q13, .int 0, .int 0, .int (-1), .ref q14, .ref q15, .ref q16, .int 0, .int 1])), (q11, .inl (g.2.2.2.2.1, 120, .inl (fun _ => 0))), (q12, .inl (g.2.2.2.2.1, 120, .inl (fun _ => 0))), (q13, .inl (g.2.2.2.2.1, 120, .inl (fun _ => 0))), (q14, .inl (g.2.2.2.2.2.2.1, 5, .inl (fun _ => 0))), (q15, .inl (g.2.2.2.2.2.2.1, 5, .inl (fun _ => 0))), (q16, .inl (g.2.2.2.2.2.2.1, 5, .inl (fun _ => 0))), (q17, .inr (2, [.ref q18, .ref q19, .ref q20, .int 0, .int (-1), .int 0])), (q18, .inl (g.2.2.2.2.1, 32, .inl (fun _ => 0))), (q19, .inl (g.2.2.2.2.2.1, 32, .inr (.inl (fun _ => 0)))), (q20, .inl (g.2.2.2.2.1, 33, .inl (fun _ => 0))), (q21, .inr (0, [.ref q22, .ref q23, .ref q24, .int 0, .int 0, .int 0, .int (-1), .long 0])), (q22, .inl (g.2.2.2.2.1, 64, .inl (fun _ => 0))), (q23, .inl (g.2.2.2.2.1, 64, .inl (fun _ => 0))), (q24, .inl (g.2.2.2.2.1, 3, .inl (fun _ => 0)))]) (q0 := 0) hC hnm DX7_init_87 G_X7_58 Ff_7_7 rfl rfl rfl (Nat.le_of_ble_eq_true rfl) rfl ?_
  refine v_iconst hC DX7_init_90 (v := 0) (by decide) ?_
  refine v_istore_n (L' := [some (.ref b), some (.int 0)]) hC DX7_init_91 (i := 1) rfl (by decide) rfl rfl ?_
  refine v_iload_n hC DX7_init_92 (i := 1) rfl rfl ?_
  refine v_bipush hC DX7_init_93 (v := 6) (by decide) ?_
  refine v_icmp_ge hC DX7_init_95 (tgt := 117) (by decide) (fun c => absurd c (by decide)) (fun _ => ?_)
  refine v_aload_n hC DX7_init_98 (i := 0) rfl rfl ?_
  refine v_get (q0 := 0) (v := .ref q1) hC DX7_init_99 G_X7_18 rfl rfl ?_
  refine v_iload_n hC DX7_init_102 (i := 1) rfl rfl ?_
  refine v_new (ty := tyX3) (fs := [.null, .null, .int 0]) hC hA DX7_init_103 i_X3 tyX3_ok CN_X7_16 IN_X3.1 IN_X3.2 (ci := 3) rfl DF_X3 (Nat.le_of_ble_eq_true rfl) (Nat.le_of_ble_eq_true rfl) (fun q25 => ?_)
  refine v_eq (ws' := [(b, .inr (7, [.ref q0, .ref q1, .ref q2, .ref q5, .ref q8, .ref q10, .ref q17, .ref q21])), (q0, .inr (1, [.int 7, .int 0, .int 1, .int 0])), (q1, .inl (g.2.2.2.2.2.2.2, 6, .inr (.inr (.inr (.inr (fun _ => none)))))), (q2, .inr (3, [.ref q3, .ref q4, .int 0])), (q3, .inl (g.2.2.2.2.1, 64, .inl (fun _ => 0))), (q4, .inl (g.2.2.2.2.2.1, 64, .inr (.inl (fun _ => 0)))), (q5, .inr (4, [.ref q6, .ref q7, .int 0])), (q7, .inl (g.2.2.2.2.2.1, 64, .inr (.inl (fun _ => 0)))), (q6, .inl (g.2.2.2.2.1, 12, .inl (ffill 12))), (q8, .inr (6, [.ref q9, .int 0, .int 0, .int 0, .int 0])), (q9, .inl (g.2.2.2.2.1, 120, .inl (fun _ => 0))), (q10, .inr (5, [.ref q11, .ref q12, .ref q13, .int 0, .int 0, .int (-1), .ref q14, .ref q15, .ref q16, .int 0, .int 1])), (q11, .inl (g.2.2.2.2.1, 120, .inl (fun _ => 0))), (q12, .inl (g.2.2.2.2.1, 120, .inl (fun _ => 0))), (q13, .inl (g.2.2.2.2.1, 120, .inl (fun _ => 0))), (q14, .inl (g.2.2.2.2.2.2.1, 5, .inl (fun _ => 0))), (q15, .inl (g.2.2.2.2.2.2.1, 5, .inl (fun _ => 0))), (q16, .inl (g.2.2.2.2.2.2.1, 5, .inl (fun _ => 0))), (q17, .inr (2, [.ref q18, .ref q19, .ref q20, .int 0, .int (-1), .int 0])), (q18, .inl (g.2.2.2.2.1, 32, .inl (fun _ => 0))), (q19, .inl (g.2.2.2.2.2.1, 32, .inr (.inl (fun _ => 0)))), (q20, .inl (g.2.2.2.2.1, 33, .inl (fun _ => 0))), (q21, .inr (0, [.ref q22, .ref q23, .ref q24, .int 0, .int 0, .int 0, .int (-1), .long 0])), (q22, .inl (g.2.2.2.2.1, 64, .inl (fun _ => 0))), (q23, .inl (g.2.2.2.2.1, 64, .inl (fun _ => 0))), (q24, .inl (g.2.2.2.2.1, 3, .inl (fun _ => 0))), (q25, .inr (3, [.null, .null, .int 0]))]) rfl ?_
  refine v_dup hC DX7_init_106 rfl ?_
  refine v_callIN (wr := [(b, .inr (7, [.ref q0, .ref q1, .ref q2, .ref q5, .ref q8, .ref q10, .ref q17, .ref q21])), (q0, .inr (1, [.int 7, .int 0, .int 1, .int 0])), (q1, .inl (g.2.2.2.2.2.2.2, 6, .inr (.inr (.inr (.inr (fun _ => none)))))), (q2, .inr (3, [.ref q3, .ref q4, .int 0])), (q3, .inl (g.2.2.2.2.1, 64, .inl (fun _ => 0))), (q4, .inl (g.2.2.2.2.2.1, 64, .inr (.inl (fun _ => 0)))), (q5, .inr (4, [.ref q6, .ref q7, .int 0])), (q7, .inl (g.2.2.2.2.2.1, 64, .inr (.inl (fun _ => 0)))), (q6, .inl (g.2.2.2.2.1, 12, .inl (ffill 12))), (q8, .inr (6, [.ref q9, .int 0, .int 0, .int 0, .int 0])), (q9, .inl (g.2.2.2.2.1, 120, .inl (fun _ => 0))), (q10, .inr (5, [.ref q11, .ref q12, .ref q13, .int 0, .int 0, .int (-1), .ref q14, .ref q15, .ref q16, .int 0, .int 1])), (q11, .inl (g.2.2.2.2.1, 120, .inl (fun _ => 0))), (q12, .inl (g.2.2.2.2.1, 120, .inl (fun _ => 0))), (q13, .inl (g.2.2.2.2.1, 120, .inl (fun _ => 0))), (q14, .inl (g.2.2.2.2.2.2.1, 5, .inl (fun _ => 0))), (q15, .inl (g.2.2.2.2.2.2.1, 5, .inl (fun _ => 0))), (q16, .inl (g.2.2.2.2.2.2.1, 5, .inl (fun _ => 0))), (q17, .inr (2, [.ref q18, .ref q19, .ref q20, .int 0, .int (-1), .int 0])), (q18, .inl (g.2.2.2.2.1, 32, .inl (fun _ => 0))), (q19, .inl (g.2.2.2.2.2.1, 32, .inr (.inl (fun _ => 0)))), (q20, .inl (g.2.2.2.2.1, 33, .inl (fun _ => 0))), (q21, .inr (0, [.ref q22, .ref q23, .ref q24, .int 0, .int 0, .int 0, .int (-1), .long 0])), (q22, .inl (g.2.2.2.2.1, 64, .inl (fun _ => 0))), (q23, .inl (g.2.2.2.2.1, 64, .inl (fun _ => 0))), (q24, .inl (g.2.2.2.2.1, 3, .inl (fun _ => 0)))]) [26] [0, 1, 2, 3, 4, 5, 6, 7, 8, 9, 10, 11, 12, 13, 14, 15, 16, 17, 18, 19, 20, 21, 22, 23, 24, 25] hC hA hN hAO DX7_init_107 CI_X3_init "PodMarks" (by decide) (k_X3_init (b := q25)) rfl rfl (by decide) (by decide) (by decide) rfl rfl (by decide) (by decide) (Nat.le_of_ble_eq_true rfl) (Nat.le_of_ble_eq_true rfl) (Nat.le_of_ble_eq_true rfl) (fun w hw => ?_)
  obtain ⟨q26, q27, rfl⟩ := hw
  refine v_eq (ws' := [(b, .inr (7, [.ref q0, .ref q1, .ref q2, .ref q5, .ref q8, .ref q10, .ref q17, .ref q21])), (q0, .inr (1, [.int 7, .int 0, .int 1, .int 0])), (q1, .inl (g.2.2.2.2.2.2.2, 6, .inr (.inr (.inr (.inr (fun _ => none)))))), (q2, .inr (3, [.ref q3, .ref q4, .int 0])), (q3, .inl (g.2.2.2.2.1, 64, .inl (fun _ => 0))), (q4, .inl (g.2.2.2.2.2.1, 64, .inr (.inl (fun _ => 0)))), (q5, .inr (4, [.ref q6, .ref q7, .int 0])), (q7, .inl (g.2.2.2.2.2.1, 64, .inr (.inl (fun _ => 0)))), (q6, .inl (g.2.2.2.2.1, 12, .inl (ffill 12))), (q8, .inr (6, [.ref q9, .int 0, .int 0, .int 0, .int 0])), (q9, .inl (g.2.2.2.2.1, 120, .inl (fun _ => 0))), (q10, .inr (5, [.ref q11, .ref q12, .ref q13, .int 0, .int 0, .int (-1), .ref q14, .ref q15, .ref q16, .int 0, .int 1])), (q11, .inl (g.2.2.2.2.1, 120, .inl (fun _ => 0))), (q12, .inl (g.2.2.2.2.1, 120, .inl (fun _ => 0))), (q13, .inl (g.2.2.2.2.1, 120, .inl (fun _ => 0))), (q14, .inl (g.2.2.2.2.2.2.1, 5, .inl (fun _ => 0))), (q15, .inl (g.2.2.2.2.2.2.1, 5, .inl (fun _ => 0))), (q16, .inl (g.2.2.2.2.2.2.1, 5, .inl (fun _ => 0))), (q17, .inr (2, [.ref q18, .ref q19, .ref q20, .int 0, .int (-1), .int 0])), (q18, .inl (g.2.2.2.2.1, 32, .inl (fun _ => 0))), (q19, .inl (g.2.2.2.2.2.1, 32, .inr (.inl (fun _ => 0)))), (q20, .inl (g.2.2.2.2.1, 33, .inl (fun _ => 0))), (q21, .inr (0, [.ref q22, .ref q23, .ref q24, .int 0, .int 0, .int 0, .int (-1), .long 0])), (q22, .inl (g.2.2.2.2.1, 64, .inl (fun _ => 0))), (q23, .inl (g.2.2.2.2.1, 64, .inl (fun _ => 0))), (q24, .inl (g.2.2.2.2.1, 3, .inl (fun _ => 0))), (q25, .inr (3, [.ref q26, .ref q27, .int 0])), (q26, .inl (g.2.2.2.2.1, 64, .inl (fun _ => 0))), (q27, .inl (g.2.2.2.2.2.1, 64, .inr (.inl (fun _ => 0))))]) rfl ?_
  refine v_astq (ws' := [(b, .inr (7, [.ref q0, .ref q1, .ref q2, .ref q5, .ref q8, .ref q10, .ref q17, .ref q21])), (q0, .inr (1, [.int 7, .int 0, .int 1, .int 0])), (q1, .inl (g.2.2.2.2.2.2.2, 6, .inr (.inr (.inr (.inr (va_up (fun _ => none) 0 (some q25))))))), (q2, .inr (3, [.ref q3, .ref q4, .int 0])), (q3, .inl (g.2.2.2.2.1, 64, .inl (fun _ => 0))), (q4, .inl (g.2.2.2.2.2.1, 64, .inr (.inl (fun _ => 0)))), (q5, .inr (4, [.ref q6, .ref q7, .int 0])), (q7, .inl (g.2.2.2.2.2.1, 64, .inr (.inl (fun _ => 0)))), (q6, .inl (g.2.2.2.2.1, 12, .inl (ffill 12))), (q8, .inr (6, [.ref q9, .int 0, .int 0, .int 0, .int 0])), (q9, .inl (g.2.2.2.2.1, 120, .inl (fun _ => 0))), (q10, .inr (5, [.ref q11, .ref q12, .ref q13, .int 0, .int 0, .int (-1), .ref q14, .ref q15, .ref q16, .int 0, .int 1])), (q11, .inl (g.2.2.2.2.1, 120, .inl (fun _ => 0))), (q12, .inl (g.2.2.2.2.1, 120, .inl (fun _ => 0))), (q13, .inl (g.2.2.2.2.1, 120, .inl (fun _ => 0))), (q14, .inl (g.2.2.2.2.2.2.1, 5, .inl (fun _ => 0))), (q15, .inl (g.2.2.2.2.2.2.1, 5, .inl (fun _ => 0))), (q16, .inl (g.2.2.2.2.2.2.1, 5, .inl (fun _ => 0))), (q17, .inr (2, [.ref q18, .ref q19, .ref q20, .int 0, .int (-1), .int 0])), (q18, .inl (g.2.2.2.2.1, 32, .inl (fun _ => 0))), (q19, .inl (g.2.2.2.2.2.1, 32, .inr (.inl (fun _ => 0)))), (q20, .inl (g.2.2.2.2.1, 33, .inl (fun _ => 0))), (q21, .inr (0, [.ref q22, .ref q23, .ref q24, .int 0, .int 0, .int 0, .int (-1), .long 0])), (q22, .inl (g.2.2.2.2.1, 64, .inl (fun _ => 0))), (q23, .inl (g.2.2.2.2.1, 64, .inl (fun _ => 0))), (q24, .inl (g.2.2.2.2.1, 3, .inl (fun _ => 0))), (q25, .inr (3, [.ref q26, .ref q27, .int 0])), (q26, .inl (g.2.2.2.2.1, 64, .inl (fun _ => 0))), (q27, .inl (g.2.2.2.2.2.1, 64, .inr (.inl (fun _ => 0))))]) (q0 := 2) (qk := 26) hC DX7_init_110 rfl rfl (x_vin (by decide)) rfl ?_
  refine v_iinc (L' := [some (.ref b), some (.int 1)]) hC DX7_init_111 (x := 0) (v := 1) rfl (by decide) (by decide) rfl rfl ?_
  refine v_goto hC DX7_init_114 (tgt := 92) (by decide) ?_
  refine v_iload_n hC DX7_init_92 (i := 1) rfl rfl ?_
  refine v_bipush hC DX7_init_93 (v := 6) (by decide) ?_
  refine v_icmp_ge hC DX7_init_95 (tgt := 117) (by decide) (fun c => absurd c (by decide)) (fun _ => ?_)
  refine v_aload_n hC DX7_init_98 (i := 0) rfl rfl ?_
  refine v_get (q0 := 0) (v := .ref q1) hC DX7_init_99 G_X7_18 rfl rfl ?_
  refine v_iload_n hC DX7_init_102 (i := 1) rfl rfl ?_
  refine v_new (ty := tyX3) (fs := [.null, .null, .int 0]) hC hA DX7_init_103 i_X3 tyX3_ok CN_X7_16 IN_X3.1 IN_X3.2 (ci := 3) rfl DF_X3 (Nat.le_of_ble_eq_true rfl) (Nat.le_of_ble_eq_true rfl) (fun q28 => ?_)
  refine v_eq (ws' := [(b, .inr (7, [.ref q0, .ref q1, .ref q2, .ref q5, .ref q8, .ref q10, .ref q17, .ref q21])), (q0, .inr (1, [.int 7, .int 0, .int 1, .int 0])), (q1, .inl (g.2.2.2.2.2.2.2, 6, .inr (.inr (.inr (.inr (va_up (fun _ => none) 0 (some q25))))))), (q2, .inr (3, [.ref q3, .ref q4, .int 0])), (q3, .inl (g.2.2.2.2.1, 64, .inl (fun _ => 0))), (q4, .inl (g.2.2.2.2.2.1, 64, .inr (.inl (fun _ => 0)))), (q5, .inr (4, [.ref q6, .ref q7, .int 0])), (q7, .inl (g.2.2.2.2.2.1, 64, .inr (.inl (fun _ => 0)))), (q6, .inl (g.2.2.2.2.1, 12, .inl (ffill 12))), (q8, .inr (6, [.ref q9, .int 0, .int 0, .int 0, .int 0])), (q9, .inl (g.2.2.2.2.1, 120, .inl (fun _ => 0))), (q10, .inr (5, [.ref q11, .ref q12, .ref q13, .int 0, .int 0, .int (-1), .ref q14, .ref q15, .ref q16, .int 0, .int 1])), (q11, .inl (g.2.2.2.2.1, 120, .inl (fun _ => 0))), (q12, .inl (g.2.2.2.2.1, 120, .inl (fun _ => 0))), (q13, .inl (g.2.2.2.2.1, 120, .inl (fun _ => 0))), (q14, .inl (g.2.2.2.2.2.2.1, 5, .inl (fun _ => 0))), (q15, .inl (g.2.2.2.2.2.2.1, 5, .inl (fun _ => 0))), (q16, .inl (g.2.2.2.2.2.2.1, 5, .inl (fun _ => 0))), (q17, .inr (2, [.ref q18, .ref q19, .ref q20, .int 0, .int (-1), .int 0])), (q18, .inl (g.2.2.2.2.1, 32, .inl (fun _ => 0))), (q19, .inl (g.2.2.2.2.2.1, 32, .inr (.inl (fun _ => 0)))), (q20, .inl (g.2.2.2.2.1, 33, .inl (fun _ => 0))), (q21, .inr (0, [.ref q22, .ref q23, .ref q24, .int 0, .int 0, .int 0, .int (-1), .long 0])), (q22, .inl (g.2.2.2.2.1, 64, .inl (fun _ => 0))), (q23, .inl (g.2.2.2.2.1, 64, .inl (fun _ => 0))), (q24, .inl (g.2.2.2.2.1, 3, .inl (fun _ => 0))), (q25, .inr (3, [.ref q26, .ref q27, .int 0])), (q26, .inl (g.2.2.2.2.1, 64, .inl (fun _ => 0))), (q27, .inl (g.2.2.2.2.2.1, 64, .inr (.inl (fun _ => 0)))), (q28, .inr (3, [.null, .null, .int 0]))]) rfl ?_
  refine v_dup hC DX7_init_106 rfl ?_
  refine v_callIN (wr := [(b, .inr (7, [.ref q0, .ref q1, .ref q2, .ref q5, .ref q8, .ref q10, .ref q17, .ref q21])), (q0, .inr (1, [.int 7, .int 0, .int 1, .int 0])), (q1, .inl (g.2.2.2.2.2.2.2, 6, .inr (.inr (.inr (.inr (va_up (fun _ => none) 0 (some q25))))))), (q2, .inr (3, [.ref q3, .ref q4, .int 0])), (q3, .inl (g.2.2.2.2.1, 64, .inl (fun _ => 0))), (q4, .inl (g.2.2.2.2.2.1, 64, .inr (.inl (fun _ => 0)))), (q5, .inr (4, [.ref q6, .ref q7, .int 0])), (q7, .inl (g.2.2.2.2.2.1, 64, .inr (.inl (fun _ => 0)))), (q6, .inl (g.2.2.2.2.1, 12, .inl (ffill 12))), (q8, .inr (6, [.ref q9, .int 0, .int 0, .int 0, .int 0])), (q9, .inl (g.2.2.2.2.1, 120, .inl (fun _ => 0))), (q10, .inr (5, [.ref q11, .ref q12, .ref q13, .int 0, .int 0, .int (-1), .ref q14, .ref q15, .ref q16, .int 0, .int 1])), (q11, .inl (g.2.2.2.2.1, 120, .inl (fun _ => 0))), (q12, .inl (g.2.2.2.2.1, 120, .inl (fun _ => 0))), (q13, .inl (g.2.2.2.2.1, 120, .inl (fun _ => 0))), (q14, .inl (g.2.2.2.2.2.2.1, 5, .inl (fun _ => 0))), (q15, .inl (g.2.2.2.2.2.2.1, 5, .inl (fun _ => 0))), (q16, .inl (g.2.2.2.2.2.2.1, 5, .inl (fun _ => 0))), (q17, .inr (2, [.ref q18, .ref q19, .ref q20, .int 0, .int (-1), .int 0])), (q18, .inl (g.2.2.2.2.1, 32, .inl (fun _ => 0))), (q19, .inl (g.2.2.2.2.2.1, 32, .inr (.inl (fun _ => 0)))), (q20, .inl (g.2.2.2.2.1, 33, .inl (fun _ => 0))), (q21, .inr (0, [.ref q22, .ref q23, .ref q24, .int 0, .int 0, .int 0, .int (-1), .long 0])), (q22, .inl (g.2.2.2.2.1, 64, .inl (fun _ => 0))), (q23, .inl (g.2.2.2.2.1, 64, .inl (fun _ => 0))), (q24, .inl (g.2.2.2.2.1, 3, .inl (fun _ => 0))), (q25, .inr (3, [.ref q26, .ref q27, .int 0])), (q26, .inl (g.2.2.2.2.1, 64, .inl (fun _ => 0))), (q27, .inl (g.2.2.2.2.2.1, 64, .inr (.inl (fun _ => 0))))]) [29] [0, 1, 2, 3, 4, 5, 6, 7, 8, 9, 10, 11, 12, 13, 14, 15, 16, 17, 18, 19, 20, 21, 22, 23, 24, 25, 26, 27, 28] hC hA hN hAO DX7_init_107 CI_X3_init "PodMarks" (by decide) (k_X3_init (b := q28)) rfl rfl (by decide) (by decide) (by decide) rfl rfl (by decide) (by decide) (Nat.le_of_ble_eq_true rfl) (Nat.le_of_ble_eq_true rfl) (Nat.le_of_ble_eq_true rfl) (fun w hw => ?_)
  obtain ⟨q29, q30, rfl⟩ := hw
  refine v_eq (ws' := [(b, .inr (7, [.ref q0, .ref q1, .ref q2, .ref q5, .ref q8, .ref q10, .ref q17, .ref q21])), (q0, .inr (1, [.int 7, .int 0, .int 1, .int 0])), (q1, .inl (g.2.2.2.2.2.2.2, 6, .inr (.inr (.inr (.inr (va_up (fun _ => none) 0 (some q25))))))), (q2, .inr (3, [.ref q3, .ref q4, .int 0])), (q3, .inl (g.2.2.2.2.1, 64, .inl (fun _ => 0))), (q4, .inl (g.2.2.2.2.2.1, 64, .inr (.inl (fun _ => 0)))), (q5, .inr (4, [.ref q6, .ref q7, .int 0])), (q7, .inl (g.2.2.2.2.2.1, 64, .inr (.inl (fun _ => 0)))), (q6, .inl (g.2.2.2.2.1, 12, .inl (ffill 12))), (q8, .inr (6, [.ref q9, .int 0, .int 0, .int 0, .int 0])), (q9, .inl (g.2.2.2.2.1, 120, .inl (fun _ => 0))), (q10, .inr (5, [.ref q11, .ref q12, .ref q13, .int 0, .int 0, .int (-1), .ref q14, .ref q15, .ref q16, .int 0, .int 1])), (q11, .inl (g.2.2.2.2.1, 120, .inl (fun _ => 0))), (q12, .inl (g.2.2.2.2.1, 120, .inl (fun _ => 0))), (q13, .inl (g.2.2.2.2.1, 120, .inl (fun _ => 0))), (q14, .inl (g.2.2.2.2.2.2.1, 5, .inl (fun _ => 0))), (q15, .inl (g.2.2.2.2.2.2.1, 5, .inl (fun _ => 0))), (q16, .inl (g.2.2.2.2.2.2.1, 5, .inl (fun _ => 0))), (q17, .inr (2, [.ref q18, .ref q19, .ref q20, .int 0, .int (-1), .int 0])), (q18, .inl (g.2.2.2.2.1, 32, .inl (fun _ => 0))), (q19, .inl (g.2.2.2.2.2.1, 32, .inr (.inl (fun _ => 0)))), (q20, .inl (g.2.2.2.2.1, 33, .inl (fun _ => 0))), (q21, .inr (0, [.ref q22, .ref q23, .ref q24, .int 0, .int 0, .int 0, .int (-1), .long 0])), (q22, .inl (g.2.2.2.2.1, 64, .inl (fun _ => 0))), (q23, .inl (g.2.2.2.2.1, 64, .inl (fun _ => 0))), (q24, .inl (g.2.2.2.2.1, 3, .inl (fun _ => 0))), (q25, .inr (3, [.ref q26, .ref q27, .int 0])), (q26, .inl (g.2.2.2.2.1, 64, .inl (fun _ => 0))), (q27, .inl (g.2.2.2.2.2.1, 64, .inr (.inl (fun _ => 0)))), (q28, .inr (3, [.ref q29, .ref q30, .int 0])), (q29, .inl (g.2.2.2.2.1, 64, .inl (fun _ => 0))), (q30, .inl (g.2.2.2.2.2.1, 64, .inr (.inl (fun _ => 0))))]) rfl ?_
  refine v_astq (ws' := [(b, .inr (7, [.ref q0, .ref q1, .ref q2, .ref q5, .ref q8, .ref q10, .ref q17, .ref q21])), (q0, .inr (1, [.int 7, .int 0, .int 1, .int 0])), (q1, .inl (g.2.2.2.2.2.2.2, 6, .inr (.inr (.inr (.inr (va_up (va_up (fun _ => none) 0 (some q25)) 1 (some q28))))))), (q2, .inr (3, [.ref q3, .ref q4, .int 0])), (q3, .inl (g.2.2.2.2.1, 64, .inl (fun _ => 0))), (q4, .inl (g.2.2.2.2.2.1, 64, .inr (.inl (fun _ => 0)))), (q5, .inr (4, [.ref q6, .ref q7, .int 0])), (q7, .inl (g.2.2.2.2.2.1, 64, .inr (.inl (fun _ => 0)))), (q6, .inl (g.2.2.2.2.1, 12, .inl (ffill 12))), (q8, .inr (6, [.ref q9, .int 0, .int 0, .int 0, .int 0])), (q9, .inl (g.2.2.2.2.1, 120, .inl (fun _ => 0))), (q10, .inr (5, [.ref q11, .ref q12, .ref q13, .int 0, .int 0, .int (-1), .ref q14, .ref q15, .ref q16, .int 0, .int 1])), (q11, .inl (g.2.2.2.2.1, 120, .inl (fun _ => 0))), (q12, .inl (g.2.2.2.2.1, 120, .inl (fun _ => 0))), (q13, .inl (g.2.2.2.2.1, 120, .inl (fun _ => 0))), (q14, .inl (g.2.2.2.2.2.2.1, 5, .inl (fun _ => 0))), (q15, .inl (g.2.2.2.2.2.2.1, 5, .inl (fun _ => 0))), (q16, .inl (g.2.2.2.2.2.2.1, 5, .inl (fun _ => 0))), (q17, .inr (2, [.ref q18, .ref q19, .ref q20, .int 0, .int (-1), .int 0])), (q18, .inl (g.2.2.2.2.1, 32, .inl (fun _ => 0))), (q19, .inl (g.2.2.2.2.2.1, 32, .inr (.inl (fun _ => 0)))), (q20, .inl (g.2.2.2.2.1, 33, .inl (fun _ => 0))), (q21, .inr (0, [.ref q22, .ref q23, .ref q24, .int 0, .int 0, .int 0, .int (-1), .long 0])), (q22, .inl (g.2.2.2.2.1, 64, .inl (fun _ => 0))), (q23, .inl (g.2.2.2.2.1, 64, .inl (fun _ => 0))), (q24, .inl (g.2.2.2.2.1, 3, .inl (fun _ => 0))), (q25, .inr (3, [.ref q26, .ref q27, .int 0])), (q26, .inl (g.2.2.2.2.1, 64, .inl (fun _ => 0))), (q27, .inl (g.2.2.2.2.2.1, 64, .inr (.inl (fun _ => 0)))), (q28, .inr (3, [.ref q29, .ref q30, .int 0])), (q29, .inl (g.2.2.2.2.1, 64, .inl (fun _ => 0))), (q30, .inl (g.2.2.2.2.2.1, 64, .inr (.inl (fun _ => 0))))]) (q0 := 2) (qk := 29) hC DX7_init_110 rfl rfl (x_vin (by decide)) rfl ?_
  refine v_iinc (L' := [some (.ref b), some (.int 2)]) hC DX7_init_111 (x := 1) (v := 2) rfl (by decide) (by decide) rfl rfl ?_
  refine v_goto hC DX7_init_114 (tgt := 92) (by decide) ?_
  refine v_iload_n hC DX7_init_92 (i := 1) rfl rfl ?_
  refine v_bipush hC DX7_init_93 (v := 6) (by decide) ?_
  refine v_icmp_ge hC DX7_init_95 (tgt := 117) (by decide) (fun c => absurd c (by decide)) (fun _ => ?_)
  refine v_aload_n hC DX7_init_98 (i := 0) rfl rfl ?_
  refine v_get (q0 := 0) (v := .ref q1) hC DX7_init_99 G_X7_18 rfl rfl ?_
  refine v_iload_n hC DX7_init_102 (i := 1) rfl rfl ?_
  refine v_new (ty := tyX3) (fs := [.null, .null, .int 0]) hC hA DX7_init_103 i_X3 tyX3_ok CN_X7_16 IN_X3.1 IN_X3.2 (ci := 3) rfl DF_X3 (Nat.le_of_ble_eq_true rfl) (Nat.le_of_ble_eq_true rfl) (fun q31 => ?_)
  refine v_eq (ws' := [(b, .inr (7, [.ref q0, .ref q1, .ref q2, .ref q5, .ref q8, .ref q10, .ref q17, .ref q21])), (q0, .inr (1, [.int 7, .int 0, .int 1, .int 0])), (q1, .inl (g.2.2.2.2.2.2.2, 6, .inr (.inr (.inr (.inr (va_up (va_up (fun _ => none) 0 (some q25)) 1 (some q28))))))), (q2, .inr (3, [.ref q3, .ref q4, .int 0])), (q3, .inl (g.2.2.2.2.1, 64, .inl (fun _ => 0))), (q4, .inl (g.2.2.2.2.2.1, 64, .inr (.inl (fun _ => 0)))), (q5, .inr (4, [.ref q6, .ref q7, .int 0])), (q7, .inl (g.2.2.2.2.2.1, 64, .inr (.inl (fun _ => 0)))), (q6, .inl (g.2.2.2.2.1, 12, .inl (ffill 12))), (q8, .inr (6, [.ref q9, .int 0, .int 0, .int 0, .int 0])), (q9, .inl (g.2.2.2.2.1, 120, .inl (fun _ => 0))), (q10, .inr (5, [.ref q11, .ref q12, .ref q13, .int 0, .int 0, .int (-1), .ref q14, .ref q15, .ref q16, .int 0, .int 1])), (q11, .inl (g.2.2.2.2.1, 120, .inl (fun _ => 0))), (q12, .inl (g.2.2.2.2.1, 120, .inl (fun _ => 0))), (q13, .inl (g.2.2.2.2.1, 120, .inl (fun _ => 0))), (q14, .inl (g.2.2.2.2.2.2.1, 5, .inl (fun _ => 0))), (q15, .inl (g.2.2.2.2.2.2.1, 5, .inl (fun _ => 0))), (q16, .inl (g.2.2.2.2.2.2.1, 5, .inl (fun _ => 0))), (q17, .inr (2, [.ref q18, .ref q19, .ref q20, .int 0, .int (-1), .int 0])), (q18, .inl (g.2.2.2.2.1, 32, .inl (fun _ => 0))), (q19, .inl (g.2.2.2.2.2.1, 32, .inr (.inl (fun _ => 0)))), (q20, .inl (g.2.2.2.2.1, 33, .inl (fun _ => 0))), (q21, .inr (0, [.ref q22, .ref q23, .ref q24, .int 0, .int 0, .int 0, .int (-1), .long 0])), (q22, .inl (g.2.2.2.2.1, 64, .inl (fun _ => 0))), (q23, .inl (g.2.2.2.2.1, 64, .inl (fun _ => 0))), (q24, .inl (g.2.2.2.2.1, 3, .inl (fun _ => 0))), (q25, .inr (3, [.ref q26, .ref q27, .int 0])), (q26, .inl (g.2.2.2.2.1, 64, .inl (fun _ => 0))), (q27, .inl (g.2.2.2.2.2.1, 64, .inr (.inl (fun _ => 0)))), (q28, .inr (3, [.ref q29, .ref q30, .int 0])), (q29, .inl (g.2.2.2.2.1, 64, .inl (fun _ => 0))), (q30, .inl (g.2.2.2.2.2.1, 64, .inr (.inl (fun _ => 0)))), (q31, .inr (3, [.null, .null, .int 0]))]) rfl ?_
  refine v_dup hC DX7_init_106 rfl ?_
  refine v_callIN (wr := [(b, .inr (7, [.ref q0, .ref q1, .ref q2, .ref q5, .ref q8, .ref q10, .ref q17, .ref q21])), (q0, .inr (1, [.int 7, .int 0, .int 1, .int 0])), (q1, .inl (g.2.2.2.2.2.2.2, 6, .inr (.inr (.inr (.inr (va_up (va_up (fun _ => none) 0 (some q25)) 1 (some q28))))))), (q2, .inr (3, [.ref q3, .ref q4, .int 0])), (q3, .inl (g.2.2.2.2.1, 64, .inl (fun _ => 0))), (q4, .inl (g.2.2.2.2.2.1, 64, .inr (.inl (fun _ => 0)))), (q5, .inr (4, [.ref q6, .ref q7, .int 0])), (q7, .inl (g.2.2.2.2.2.1, 64, .inr (.inl (fun _ => 0)))), (q6, .inl (g.2.2.2.2.1, 12, .inl (ffill 12))), (q8, .inr (6, [.ref q9, .int 0, .int 0, .int 0, .int 0])), (q9, .inl (g.2.2.2.2.1, 120, .inl (fun _ => 0))), (q10, .inr (5, [.ref q11, .ref q12, .ref q13, .int 0, .int 0, .int (-1), .ref q14, .ref q15, .ref q16, .int 0, .int 1])), (q11, .inl (g.2.2.2.2.1, 120, .inl (fun _ => 0))), (q12, .inl (g.2.2.2.2.1, 120, .inl (fun _ => 0))), (q13, .inl (g.2.2.2.2.1, 120, .inl (fun _ => 0))), (q14, .inl (g.2.2.2.2.2.2.1, 5, .inl (fun _ => 0))), (q15, .inl (g.2.2.2.2.2.2.1, 5, .inl (fun _ => 0))), (q16, .inl (g.2.2.2.2.2.2.1, 5, .inl (fun _ => 0))), (q17, .inr (2, [.ref q18, .ref q19, .ref q20, .int 0, .int (-1), .int 0])), (q18, .inl (g.2.2.2.2.1, 32, .inl (fun _ => 0))), (q19, .inl (g.2.2.2.2.2.1, 32, .inr (.inl (fun _ => 0)))), (q20, .inl (g.2.2.2.2.1, 33, .inl (fun _ => 0))), (q21, .inr (0, [.ref q22, .ref q23, .ref q24, .int 0, .int 0, .int 0, .int (-1), .long 0])), (q22, .inl (g.2.2.2.2.1, 64, .inl (fun _ => 0))), (q23, .inl (g.2.2.2.2.1, 64, .inl (fun _ => 0))), (q24, .inl (g.2.2.2.2.1, 3, .inl (fun _ => 0))), (q25, .inr (3, [.ref q26, .ref q27, .int 0])), (q26, .inl (g.2.2.2.2.1, 64, .inl (fun _ => 0))), (q27, .inl (g.2.2.2.2.2.1, 64, .inr (.inl (fun _ => 0)))), (q28, .inr (3, [.ref q29, .ref q30, .int 0])), (q29, .inl (g.2.2.2.2.1, 64, .inl (fun _ => 0))), (q30, .inl (g.2.2.2.2.2.1, 64, .inr (.inl (fun _ => 0))))]) [32] [0, 1, 2, 3, 4, 5, 6, 7, 8, 9, 10, 11, 12, 13, 14, 15, 16, 17, 18, 19, 20, 21, 22, 23, 24, 25, 26, 27, 28, 29, 30, 31] hC hA hN hAO DX7_init_107 CI_X3_init "PodMarks" (by decide) (k_X3_init (b := q31)) rfl rfl (by decide) (by decide) (by decide) rfl rfl (by decide) (by decide) (Nat.le_of_ble_eq_true rfl) (Nat.le_of_ble_eq_true rfl) (Nat.le_of_ble_eq_true rfl) (fun w hw => ?_)
  obtain ⟨q32, q33, rfl⟩ := hw
  refine v_eq (ws' := [(b, .inr (7, [.ref q0, .ref q1, .ref q2, .ref q5, .ref q8, .ref q10, .ref q17, .ref q21])), (q0, .inr (1, [.int 7, .int 0, .int 1, .int 0])), (q1, .inl (g.2.2.2.2.2.2.2, 6, .inr (.inr (.inr (.inr (va_up (va_up (fun _ => none) 0 (some q25)) 1 (some q28))))))), (q2, .inr (3, [.ref q3, .ref q4, .int 0])), (q3, .inl (g.2.2.2.2.1, 64, .inl (fun _ => 0))), (q4, .inl (g.2.2.2.2.2.1, 64, .inr (.inl (fun _ => 0)))), (q5, .inr (4, [.ref q6, .ref q7, .int 0])), (q7, .inl (g.2.2.2.2.2.1, 64, .inr (.inl (fun _ => 0)))), (q6, .inl (g.2.2.2.2.1, 12, .inl (ffill 12))), (q8, .inr (6, [.ref q9, .int 0, .int 0, .int 0, .int 0])), (q9, .inl (g.2.2.2.2.1, 120, .inl (fun _ => 0))), (q10, .inr (5, [.ref q11, .ref q12, .ref q13, .int 0, .int 0, .int (-1), .ref q14, .ref q15, .ref q16, .int 0, .int 1])), (q11, .inl (g.2.2.2.2.1, 120, .inl (fun _ => 0))), (q12, .inl (g.2.2.2.2.1, 120, .inl (fun _ => 0))), (q13, .inl (g.2.2.2.2.1, 120, .inl (fun _ => 0))), (q14, .inl (g.2.2.2.2.2.2.1, 5, .inl (fun _ => 0))), (q15, .inl (g.2.2.2.2.2.2.1, 5, .inl (fun _ => 0))), (q16, .inl (g.2.2.2.2.2.2.1, 5, .inl (fun _ => 0))), (q17, .inr (2, [.ref q18, .ref q19, .ref q20, .int 0, .int (-1), .int 0])), (q18, .inl (g.2.2.2.2.1, 32, .inl (fun _ => 0))), (q19, .inl (g.2.2.2.2.2.1, 32, .inr (.inl (fun _ => 0)))), (q20, .inl (g.2.2.2.2.1, 33, .inl (fun _ => 0))), (q21, .inr (0, [.ref q22, .ref q23, .ref q24, .int 0, .int 0, .int 0, .int (-1), .long 0])), (q22, .inl (g.2.2.2.2.1, 64, .inl (fun _ => 0))), (q23, .inl (g.2.2.2.2.1, 64, .inl (fun _ => 0))), (q24, .inl (g.2.2.2.2.1, 3, .inl (fun _ => 0))), (q25, .inr (3, [.ref q26, .ref q27, .int 0])), (q26, .inl (g.2.2.2.2.1, 64, .inl (fun _ => 0))), (q27, .inl (g.2.2.2.2.2.1, 64, .inr (.inl (fun _ => 0)))), (q28, .inr (3, [.ref q29, .ref q30, .int 0])), (q29, .inl (g.2.2.2.2.1, 64, .inl (fun _ => 0))), (q30, .inl (g.2.2.2.2.2.1, 64, .inr (.inl (fun _ => 0)))), (q31, .inr (3, [.ref q32, .ref q33, .int 0])), (q32, .inl (g.2.2.2.2.1, 64, .inl (fun _ => 0))), (q33, .inl (g.2.2.2.2.2.1, 64, .inr (.inl (fun _ => 0))))]) rfl ?_
  refine v_astq (ws' := [(b, .inr (7, [.ref q0, .ref q1, .ref q2, .ref q5, .ref q8, .ref q10, .ref q17, .ref q21])), (q0, .inr (1, [.int 7, .int 0, .int 1, .int 0])), (q1, .inl (g.2.2.2.2.2.2.2, 6, .inr (.inr (.inr (.inr (va_up (va_up (va_up (fun _ => none) 0 (some q25)) 1 (some q28)) 2 (some q31))))))), (q2, .inr (3, [.ref q3, .ref q4, .int 0])), (q3, .inl (g.2.2.2.2.1, 64, .inl (fun _ => 0))), (q4, .inl (g.2.2.2.2.2.1, 64, .inr (.inl (fun _ => 0)))), (q5, .inr (4, [.ref q6, .ref q7, .int 0])), (q7, .inl (g.2.2.2.2.2.1, 64, .inr (.inl (fun _ => 0)))), (q6, .inl (g.2.2.2.2.1, 12, .inl (ffill 12))), (q8, .inr (6, [.ref q9, .int 0, .int 0, .int 0, .int 0])), (q9, .inl (g.2.2.2.2.1, 120, .inl (fun _ => 0))), (q10, .inr (5, [.ref q11, .ref q12, .ref q13, .int 0, .int 0, .int (-1), .ref q14, .ref q15, .ref q16, .int 0, .int 1])), (q11, .inl (g.2.2.2.2.1, 120, .inl (fun _ => 0))), (q12, .inl (g.2.2.2.2.1, 120, .inl (fun _ => 0))), (q13, .inl (g.2.2.2.2.1, 120, .inl (fun _ => 0))), (q14, .inl (g.2.2.2.2.2.2.1, 5, .inl (fun _ => 0))), (q15, .inl (g.2.2.2.2.2.2.1, 5, .inl (fun _ => 0))), (q16, .inl (g.2.2.2.2.2.2.1, 5, .inl (fun _ => 0))), (q17, .inr (2, [.ref q18, .ref q19, .ref q20, .int 0, .int (-1), .int 0])), (q18, .inl (g.2.2.2.2.1, 32, .inl (fun _ => 0))), (q19, .inl (g.2.2.2.2.2.1, 32, .inr (.inl (fun _ => 0)))), (q20, .inl (g.2.2.2.2.1, 33, .inl (fun _ => 0))), (q21, .inr (0, [.ref q22, .ref q23, .ref q24, .int 0, .int 0, .int 0, .int (-1), .long 0])), (q22, .inl (g.2.2.2.2.1, 64, .inl (fun _ => 0))), (q23, .inl (g.2.2.2.2.1, 64, .inl (fun _ => 0))), (q24, .inl (g.2.2.2.2.1, 3, .inl (fun _ => 0))), (q25, .inr (3, [.ref q26, .ref q27, .int 0])), (q26, .inl (g.2.2.2.2.1, 64, .inl (fun _ => 0))), (q27, .inl (g.2.2.2.2.2.1, 64, .inr (.inl (fun _ => 0)))), (q28, .inr (3, [.ref q29, .ref q30, .int 0])), (q29, .inl (g.2.2.2.2.1, 64, .inl (fun _ => 0))), (q30, .inl (g.2.2.2.2.2.1, 64, .inr (.inl (fun _ => 0)))), (q31, .inr (3, [.ref q32, .ref q33, .int 0])), (q32, .inl (g.2.2.2.2.1, 64, .inl (fun _ => 0))), (q33, .inl (g.2.2.2.2.2.1, 64, .inr (.inl (fun _ => 0))))]) (q0 := 2) (qk := 32) hC DX7_init_110 rfl rfl (x_vin (by decide)) rfl ?_
  refine v_iinc (L' := [some (.ref b), some (.int 3)]) hC DX7_init_111 (x := 2) (v := 3) rfl (by decide) (by decide) rfl rfl ?_
  refine v_goto hC DX7_init_114 (tgt := 92) (by decide) ?_
  refine v_iload_n hC DX7_init_92 (i := 1) rfl rfl ?_
  refine v_bipush hC DX7_init_93 (v := 6) (by decide) ?_
  refine v_icmp_ge hC DX7_init_95 (tgt := 117) (by decide) (fun c => absurd c (by decide)) (fun _ => ?_)
  refine v_aload_n hC DX7_init_98 (i := 0) rfl rfl ?_
  refine v_get (q0 := 0) (v := .ref q1) hC DX7_init_99 G_X7_18 rfl rfl ?_
  refine v_iload_n hC DX7_init_102 (i := 1) rfl rfl ?_
  refine v_new (ty := tyX3) (fs := [.null, .null, .int 0]) hC hA DX7_init_103 i_X3 tyX3_ok CN_X7_16 IN_X3.1 IN_X3.2 (ci := 3) rfl DF_X3 (Nat.le_of_ble_eq_true rfl) (Nat.le_of_ble_eq_true rfl) (fun q34 => ?_)
  refine v_eq (ws' := [(b, .inr (7, [.ref q0, .ref q1, .ref q2, .ref q5, .ref q8, .ref q10, .ref q17, .ref q21])), (q0, .inr (1, [.int 7, .int 0, .int 1, .int 0])), (q1, .inl (g.2.2.2.2.2.2.2, 6, .inr (.inr (.inr (.inr (va_up (va_up (va_up (fun _ => none) 0 (some q25)) 1 (some q28)) 2 (some q31))))))), (q2, .inr (3, [.ref q3, .ref q4, .int 0])), (q3, .inl (g.2.2.2.2.1, 64, .inl (fun _ => 0))), (q4, .inl (g.2.2.2.2.2.1, 64, .inr (.inl (fun _ => 0)))), (q5, .inr (4, [.ref q6, .ref q7, .int 0])), (q7, .inl (g.2.2.2.2.2.1, 64, .inr (.inl (fun _ => 0)))), (q6, .inl (g.2.2.2.2.1, 12, .inl (ffill 12))), (q8, .inr (6, [.ref q9, .int 0, .int 0, .int 0, .int 0])), (q9, .inl (g.2.2.2.2.1, 120, .inl (fun _ => 0))), (q10, .inr (5, [.ref q11, .ref q12, .ref q13, .int 0, .int 0, .int (-1), .ref q14, .ref q15, .ref q16, .int 0, .int 1])), (q11, .inl (g.2.2.2.2.1, 120, .inl (fun _ => 0))), (q12, .inl (g.2.2.2.2.1, 120, .inl (fun _ => 0))), (q13, .inl (g.2.2.2.2.1, 120, .inl (fun _ => 0))), (q14, .inl (g.2.2.2.2.2.2.1, 5, .inl (fun _ => 0))), (q15, .inl (g.2.2.2.2.2.2.1, 5, .inl (fun _ => 0))), (q16, .inl (g.2.2.2.2.2.2.1, 5, .inl (fun _ => 0))), (q17, .inr (2, [.ref q18, .ref q19, .ref q20, .int 0, .int (-1), .int 0])), (q18, .inl (g.2.2.2.2.1, 32, .inl (fun _ => 0))), (q19, .inl (g.2.2.2.2.2.1, 32, .inr (.inl (fun _ => 0)))), (q20, .inl (g.2.2.2.2.1, 33, .inl (fun _ => 0))), (q21, .inr (0, [.ref q22, .ref q23, .ref q24, .int 0, .int 0, .int 0, .int (-1), .long 0])), (q22, .inl (g.2.2.2.2.1, 64, .inl (fun _ => 0))), (q23, .inl (g.2.2.2.2.1, 64, .inl (fun _ => 0))), (q24, .inl (g.2.2.2.2.1, 3, .inl (fun _ => 0))), (q25, .inr (3, [.ref q26, .ref q27, .int 0])), (q26, .inl (g.2.2.2.2.1, 64, .inl (fun _ => 0))), (q27, .inl (g.2.2.2.2.2.1, 64, .inr (.inl (fun _ => 0)))), (q28, .inr (3, [.ref q29, .ref q30, .int 0])), (q29, .inl (g.2.2.2.2.1, 64, .inl (fun _ => 0))), (q30, .inl (g.2.2.2.2.2.1, 64, .inr (.inl (fun _ => 0)))), (q31, .inr (3, [.ref q32, .ref q33, .int 0])), (q32, .inl (g.2.2.2.2.1, 64, .inl (fun _ => 0))), (q33, .inl (g.2.2.2.2.2.1, 64, .inr (.inl (fun _ => 0)))), (q34, .inr (3, [.null, .null, .int 0]))]) rfl ?_
  refine v_dup hC DX7_init_106 rfl ?_
  refine v_callIN (wr := [(b, .inr (7, [.ref q0, .ref q1, .ref q2, .ref q5, .ref q8, .ref q10, .ref q17, .ref q21])), (q0, .inr (1, [.int 7, .int 0, .int 1, .int 0])), (q1, .inl (g.2.2.2.2.2.2.2, 6, .inr (.inr (.inr (.inr (va_up (va_up (va_up (fun _ => none) 0 (some q25)) 1 (some q28)) 2 (some q31))))))), (q2, .inr (3, [.ref q3, .ref q4, .int 0])), (q3, .inl (g.2.2.2.2.1, 64, .inl (fun _ => 0))), (q4, .inl (g.2.2.2.2.2.1, 64, .inr (.inl (fun _ => 0)))), (q5, .inr (4, [.ref q6, .ref q7, .int 0])), (q7, .inl (g.2.2.2.2.2.1, 64, .inr (.inl (fun _ => 0)))), (q6, .inl (g.2.2.2.2.1, 12, .inl (ffill 12))), (q8, .inr (6, [.ref q9, .int 0, .int 0, .int 0, .int 0])), (q9, .inl (g.2.2.2.2.1, 120, .inl (fun _ => 0))), (q10, .inr (5, [.ref q11, .ref q12, .ref q13, .int 0, .int 0, .int (-1), .ref q14, .ref q15, .ref q16, .int 0, .int 1])), (q11, .inl (g.2.2.2.2.1, 120, .inl (fun _ => 0))), (q12, .inl (g.2.2.2.2.1, 120, .inl (fun _ => 0))), (q13, .inl (g.2.2.2.2.1, 120, .inl (fun _ => 0))), (q14, .inl (g.2.2.2.2.2.2.1, 5, .inl (fun _ => 0))), (q15, .inl (g.2.2.2.2.2.2.1, 5, .inl (fun _ => 0))), (q16, .inl (g.2.2.2.2.2.2.1, 5, .inl (fun _ => 0))), (q17, .inr (2, [.ref q18, .ref q19, .ref q20, .int 0, .int (-1), .int 0])), (q18, .inl (g.2.2.2.2.1, 32, .inl (fun _ => 0))), (q19, .inl (g.2.2.2.2.2.1, 32, .inr (.inl (fun _ => 0)))), (q20, .inl (g.2.2.2.2.1, 33, .inl (fun _ => 0))), (q21, .inr (0, [.ref q22, .ref q23, .ref q24, .int 0, .int 0, .int 0, .int (-1), .long 0])), (q22, .inl (g.2.2.2.2.1, 64, .inl (fun _ => 0))), (q23, .inl (g.2.2.2.2.1, 64, .inl (fun _ => 0))), (q24, .inl (g.2.2.2.2.1, 3, .inl (fun _ => 0))), (q25, .inr (3, [.ref q26, .ref q27, .int 0])), (q26, .inl (g.2.2.2.2.1, 64, .inl (fun _ => 0))), (q27, .inl (g.2.2.2.2.2.1, 64, .inr (.inl (fun _ => 0)))), (q28, .inr (3, [.ref q29, .ref q30, .int 0])), (q29, .inl (g.2.2.2.2.1, 64, .inl (fun _ => 0))), (q30, .inl (g.2.2.2.2.2.1, 64, .inr (.inl (fun _ => 0)))), (q31, .inr (3, [.ref q32, .ref q33, .int 0])), (q32, .inl (g.2.2.2.2.1, 64, .inl (fun _ => 0))), (q33, .inl (g.2.2.2.2.2.1, 64, .inr (.inl (fun _ => 0))))]) [35] [0, 1, 2, 3, 4, 5, 6, 7, 8, 9, 10, 11, 12, 13, 14, 15, 16, 17, 18, 19, 20, 21, 22, 23, 24, 25, 26, 27, 28, 29, 30, 31, 32, 33, 34] hC hA hN hAO DX7_init_107 CI_X3_init "PodMarks" (by decide) (k_X3_init (b := q34)) rfl rfl (by decide) (by decide) (by decide) rfl rfl (by decide) (by decide) (Nat.le_of_ble_eq_true rfl) (Nat.le_of_ble_eq_true rfl) (Nat.le_of_ble_eq_true rfl) (fun w hw => ?_)
  obtain ⟨q35, q36, rfl⟩ := hw
  refine v_eq (ws' := [(b, .inr (7, [.ref q0, .ref q1, .ref q2, .ref q5, .ref q8, .ref q10, .ref q17, .ref q21])), (q0, .inr (1, [.int 7, .int 0, .int 1, .int 0])), (q1, .inl (g.2.2.2.2.2.2.2, 6, .inr (.inr (.inr (.inr (va_up (va_up (va_up (fun _ => none) 0 (some q25)) 1 (some q28)) 2 (some q31))))))), (q2, .inr (3, [.ref q3, .ref q4, .int 0])), (q3, .inl (g.2.2.2.2.1, 64, .inl (fun _ => 0))), (q4, .inl (g.2.2.2.2.2.1, 64, .inr (.inl (fun _ => 0)))), (q5, .inr (4, [.ref q6, .ref q7, .int 0])), (q7, .inl (g.2.2.2.2.2.1, 64, .inr (.inl (fun _ => 0)))), (q6, .inl (g.2.2.2.2.1, 12, .inl (ffill 12))), (q8, .inr (6, [.ref q9, .int 0, .int 0, .int 0, .int 0])), (q9, .inl (g.2.2.2.2.1, 120, .inl (fun _ => 0))), (q10, .inr (5, [.ref q11, .ref q12, .ref q13, .int 0, .int 0, .int (-1), .ref q14, .ref q15, .ref q16, .int 0, .int 1])), (q11, .inl (g.2.2.2.2.1, 120, .inl (fun _ => 0))), (q12, .inl (g.2.2.2.2.1, 120, .inl (fun _ => 0))), (q13, .inl (g.2.2.2.2.1, 120, .inl (fun _ => 0))), (q14, .inl (g.2.2.2.2.2.2.1, 5, .inl (fun _ => 0))), (q15, .inl (g.2.2.2.2.2.2.1, 5, .inl (fun _ => 0))), (q16, .inl (g.2.2.2.2.2.2.1, 5, .inl (fun _ => 0))), (q17, .inr (2, [.ref q18, .ref q19, .ref q20, .int 0, .int (-1), .int 0])), (q18, .inl (g.2.2.2.2.1, 32, .inl (fun _ => 0))), (q19, .inl (g.2.2.2.2.2.1, 32, .inr (.inl (fun _ => 0)))), (q20, .inl (g.2.2.2.2.1, 33, .inl (fun _ => 0))), (q21, .inr (0, [.ref q22, .ref q23, .ref q24, .int 0, .int 0, .int 0, .int (-1), .long 0])), (q22, .inl (g.2.2.2.2.1, 64, .inl (fun _ => 0))), (q23, .inl (g.2.2.2.2.1, 64, .inl (fun _ => 0))), (q24, .inl (g.2.2.2.2.1, 3, .inl (fun _ => 0))), (q25, .inr (3, [.ref q26, .ref q27, .int 0])), (q26, .inl (g.2.2.2.2.1, 64, .inl (fun _ => 0))), (q27, .inl (g.2.2.2.2.2.1, 64, .inr (.inl (fun _ => 0)))), (q28, .inr (3, [.ref q29, .ref q30, .int 0])), (q29, .inl (g.2.2.2.2.1, 64, .inl (fun _ => 0))), (q30, .inl (g.2.2.2.2.2.1, 64, .inr (.inl (fun _ => 0)))), (q31, .inr (3, [.ref q32, .ref q33, .int 0])), (q32, .inl (g.2.2.2.2.1, 64, .inl (fun _ => 0))), (q33, .inl (g.2.2.2.2.2.1, 64, .inr (.inl (fun _ => 0)))), (q34, .inr (3, [.ref q35, .ref q36, .int 0])), (q35, .inl (g.2.2.2.2.1, 64, .inl (fun _ => 0))), (q36, .inl (g.2.2.2.2.2.1, 64, .inr (.inl (fun _ => 0))))]) rfl ?_
  refine v_astq (ws' := [(b, .inr (7, [.ref q0, .ref q1, .ref q2, .ref q5, .ref q8, .ref q10, .ref q17, .ref q21])), (q0, .inr (1, [.int 7, .int 0, .int 1, .int 0])), (q1, .inl (g.2.2.2.2.2.2.2, 6, .inr (.inr (.inr (.inr (va_up (va_up (va_up (va_up (fun _ => none) 0 (some q25)) 1 (some q28)) 2 (some q31)) 3 (some q34))))))), (q2, .inr (3, [.ref q3, .ref q4, .int 0])), (q3, .inl (g.2.2.2.2.1, 64, .inl (fun _ => 0))), (q4, .inl (g.2.2.2.2.2.1, 64, .inr (.inl (fun _ => 0)))), (q5, .inr (4, [.ref q6, .ref q7, .int 0])), (q7, .inl (g.2.2.2.2.2.1, 64, .inr (.inl (fun _ => 0)))), (q6, .inl (g.2.2.2.2.1, 12, .inl (ffill 12))), (q8, .inr (6, [.ref q9, .int 0, .int 0, .int 0, .int 0])), (q9, .inl (g.2.2.2.2.1, 120, .inl (fun _ => 0))), (q10, .inr (5, [.ref q11, .ref q12, .ref q13, .int 0, .int 0, .int (-1), .ref q14, .ref q15, .ref q16, .int 0, .int 1])), (q11, .inl (g.2.2.2.2.1, 120, .inl (fun _ => 0))), (q12, .inl (g.2.2.2.2.1, 120, .inl (fun _ => 0))), (q13, .inl (g.2.2.2.2.1, 120, .inl (fun _ => 0))), (q14, .inl (g.2.2.2.2.2.2.1, 5, .inl (fun _ => 0))), (q15, .inl (g.2.2.2.2.2.2.1, 5, .inl (fun _ => 0))), (q16, .inl (g.2.2.2.2.2.2.1, 5, .inl (fun _ => 0))), (q17, .inr (2, [.ref q18, .ref q19, .ref q20, .int 0, .int (-1), .int 0])), (q18, .inl (g.2.2.2.2.1, 32, .inl (fun _ => 0))), (q19, .inl (g.2.2.2.2.2.1, 32, .inr (.inl (fun _ => 0)))), (q20, .inl (g.2.2.2.2.1, 33, .inl (fun _ => 0))), (q21, .inr (0, [.ref q22, .ref q23, .ref q24, .int 0, .int 0, .int 0, .int (-1), .long 0])), (q22, .inl (g.2.2.2.2.1, 64, .inl (fun _ => 0))), (q23, .inl (g.2.2.2.2.1, 64, .inl (fun _ => 0))), (q24, .inl (g.2.2.2.2.1, 3, .inl (fun _ => 0))), (q25, .inr (3, [.ref q26, .ref q27, .int 0])), (q26, .inl (g.2.2.2.2.1, 64, .inl (fun _ => 0))), (q27, .inl (g.2.2.2.2.2.1, 64, .inr (.inl (fun _ => 0)))), (q28, .inr (3, [.ref q29, .ref q30, .int 0])), (q29, .inl (g.2.2.2.2.1, 64, .inl (fun _ => 0))), (q30, .inl (g.2.2.2.2.2.1, 64, .inr (.inl (fun _ => 0)))), (q31, .inr (3, [.ref q32, .ref q33, .int 0])), (q32, .inl (g.2.2.2.2.1, 64, .inl (fun _ => 0))), (q33, .inl (g.2.2.2.2.2.1, 64, .inr (.inl (fun _ => 0)))), (q34, .inr (3, [.ref q35, .ref q36, .int 0])), (q35, .inl (g.2.2.2.2.1, 64, .inl (fun _ => 0))), (q36, .inl (g.2.2.2.2.2.1, 64, .inr (.inl (fun _ => 0))))]) (q0 := 2) (qk := 35) hC DX7_init_110 rfl rfl (x_vin (by decide)) rfl ?_
  refine v_iinc (L' := [some (.ref b), some (.int 4)]) hC DX7_init_111 (x := 3) (v := 4) rfl (by decide) (by decide) rfl rfl ?_
  refine v_goto hC DX7_init_114 (tgt := 92) (by decide) ?_
  refine v_iload_n hC DX7_init_92 (i := 1) rfl rfl ?_
  refine v_bipush hC DX7_init_93 (v := 6) (by decide) ?_
  refine v_icmp_ge hC DX7_init_95 (tgt := 117) (by decide) (fun c => absurd c (by decide)) (fun _ => ?_)
  refine v_aload_n hC DX7_init_98 (i := 0) rfl rfl ?_
  refine v_get (q0 := 0) (v := .ref q1) hC DX7_init_99 G_X7_18 rfl rfl ?_
  refine v_iload_n hC DX7_init_102 (i := 1) rfl rfl ?_
  refine v_new (ty := tyX3) (fs := [.null, .null, .int 0]) hC hA DX7_init_103 i_X3 tyX3_ok CN_X7_16 IN_X3.1 IN_X3.2 (ci := 3) rfl DF_X3 (Nat.le_of_ble_eq_true rfl) (Nat.le_of_ble_eq_true rfl) (fun q37 => ?_)
  refine v_eq (ws' := [(b, .inr (7, [.ref q0, .ref q1, .ref q2, .ref q5, .ref q8, .ref q10, .ref q17, .ref q21])), (q0, .inr (1, [.int 7, .int 0, .int 1, .int 0])), (q1, .inl (g.2.2.2.2.2.2.2, 6, .inr (.inr (.inr (.inr (va_up (va_up (va_up (va_up (fun _ => none) 0 (some q25)) 1 (some q28)) 2 (some q31)) 3 (some q34))))))), (q2, .inr (3, [.ref q3, .ref q4, .int 0])), (q3, .inl (g.2.2.2.2.1, 64, .inl (fun _ => 0))), (q4, .inl (g.2.2.2.2.2.1, 64, .inr (.inl (fun _ => 0)))), (q5, .inr (4, [.ref q6, .ref q7, .int 0])), (q7, .inl (g.2.2.2.2.2.1, 64, .inr (.inl (fun _ => 0)))), (q6, .inl (g.2.2.2.2.1, 12, .inl (ffill 12))), (q8, .inr (6, [.ref q9, .int 0, .int 0, .int 0, .int 0])), (q9, .inl (g.2.2.2.2.1, 120, .inl (fun _ => 0))), (q10, .inr (5, [.ref q11, .ref q12, .ref q13, .int 0, .int 0, .int (-1), .ref q14, .ref q15, .ref q16, .int 0, .int 1])), (q11, .inl (g.2.2.2.2.1, 120, .inl (fun _ => 0))), (q12, .inl (g.2.2.2.2.1, 120, .inl (fun _ => 0))), (q13, .inl (g.2.2.2.2.1, 120, .inl (fun _ => 0))), (q14, .inl (g.2.2.2.2.2.2.1, 5, .inl (fun _ => 0))), (q15, .inl (g.2.2.2.2.2.2.1, 5, .inl (fun _ => 0))), (q16, .inl (g.2.2.2.2.2.2.1, 5, .inl (fun _ => 0))), (q17, .inr (2, [.ref q18, .ref q19, .ref q20, .int 0, .int (-1), .int 0])), (q18, .inl (g.2.2.2.2.1, 32, .inl (fun _ => 0))), (q19, .inl (g.2.2.2.2.2.1, 32, .inr (.inl (fun _ => 0)))), (q20, .inl (g.2.2.2.2.1, 33, .inl (fun _ => 0))), (q21, .inr (0, [.ref q22, .ref q23, .ref q24, .int 0, .int 0, .int 0, .int (-1), .long 0])), (q22, .inl (g.2.2.2.2.1, 64, .inl (fun _ => 0))), (q23, .inl (g.2.2.2.2.1, 64, .inl (fun _ => 0))), (q24, .inl (g.2.2.2.2.1, 3, .inl (fun _ => 0))), (q25, .inr (3, [.ref q26, .ref q27, .int 0])), (q26, .inl (g.2.2.2.2.1, 64, .inl (fun _ => 0))), (q27, .inl (g.2.2.2.2.2.1, 64, .inr (.inl (fun _ => 0)))), (q28, .inr (3, [.ref q29, .ref q30, .int 0])), (q29, .inl (g.2.2.2.2.1, 64, .inl (fun _ => 0))), (q30, .inl (g.2.2.2.2.2.1, 64, .inr (.inl (fun _ => 0)))), (q31, .inr (3, [.ref q32, .ref q33, .int 0])), (q32, .inl (g.2.2.2.2.1, 64, .inl (fun _ => 0))), (q33, .inl (g.2.2.2.2.2.1, 64, .inr (.inl (fun _ => 0)))), (q34, .inr (3, [.ref q35, .ref q36, .int 0])), (q35, .inl (g.2.2.2.2.1, 64, .inl (fun _ => 0))), (q36, .inl (g.2.2.2.2.2.1, 64, .inr (.inl (fun _ => 0)))), (q37, .inr (3, [.null, .null, .int 0]))]) rfl ?_
  refine v_dup hC DX7_init_106 rfl ?_
  refine v_callIN (wr := [(b, .inr (7, [.ref q0, .ref q1, .ref q2, .ref q5, .ref q8, .ref q10, .ref q17, .ref q21])), (q0, .inr (1, [.int 7, .int 0, .int 1, .int 0])), (q1, .inl (g.2.2.2.2.2.2.2, 6, .inr (.inr (.inr (.inr (va_up (va_up (va_up (va_up (fun _ => none) 0 (some q25)) 1 (some q28)) 2 (some q31)) 3 (some q34))))))), (q2, .inr (3, [.ref q3, .ref q4, .int 0])), (q3, .inl (g.2.2.2.2.1, 64, .inl (fun _ => 0))), (q4, .inl (g.2.2.2.2.2.1, 64, .inr (.inl (fun _ => 0)))), (q5, .inr (4, [.ref q6, .ref q7, .int 0])), (q7, .inl (g.2.2.2.2.2.1, 64, .inr (.inl (fun _ => 0)))), (q6, .inl (g.2.2.2.2.1, 12, .inl (ffill 12))), (q8, .inr (6, [.ref q9, .int 0, .int 0, .int 0, .int 0])), (q9, .inl (g.2.2.2.2.1, 120, .inl (fun _ => 0))), (q10, .inr (5, [.ref q11, .ref q12, .ref q13, .int 0, .int 0, .int (-1), .ref q14, .ref q15, .ref q16, .int 0, .int 1])), (q11, .inl (g.2.2.2.2.1, 120, .inl (fun _ => 0))), (q12, .inl (g.2.2.2.2.1, 120, .inl (fun _ => 0))), (q13, .inl (g.2.2.2.2.1, 120, .inl (fun _ => 0))), (q14, .inl (g.2.2.2.2.2.2.1, 5, .inl (fun _ => 0))), (q15, .inl (g.2.2.2.2.2.2.1, 5, .inl (fun _ => 0))), (q16, .inl (g.2.2.2.2.2.2.1, 5, .inl (fun _ => 0))), (q17, .inr (2, [.ref q18, .ref q19, .ref q20, .int 0, .int (-1), .int 0])), (q18, .inl (g.2.2.2.2.1, 32, .inl (fun _ => 0))), (q19, .inl (g.2.2.2.2.2.1, 32, .inr (.inl (fun _ => 0)))), (q20, .inl (g.2.2.2.2.1, 33, .inl (fun _ => 0))), (q21, .inr (0, [.ref q22, .ref q23, .ref q24, .int 0, .int 0, .int 0, .int (-1), .long 0])), (q22, .inl (g.2.2.2.2.1, 64, .inl (fun _ => 0))), (q23, .inl (g.2.2.2.2.1, 64, .inl (fun _ => 0))), (q24, .inl (g.2.2.2.2.1, 3, .inl (fun _ => 0))), (q25, .inr (3, [.ref q26, .ref q27, .int 0])), (q26, .inl (g.2.2.2.2.1, 64, .inl (fun _ => 0))), (q27, .inl (g.2.2.2.2.2.1, 64, .inr (.inl (fun _ => 0)))), (q28, .inr (3, [.ref q29, .ref q30, .int 0])), (q29, .inl (g.2.2.2.2.1, 64, .inl (fun _ => 0))), (q30, .inl (g.2.2.2.2.2.1, 64, .inr (.inl (fun _ => 0)))), (q31, .inr (3, [.ref q32, .ref q33, .int 0])), (q32, .inl (g.2.2.2.2.1, 64, .inl (fun _ => 0))), (q33, .inl (g.2.2.2.2.2.1, 64, .inr (.inl (fun _ => 0)))), (q34, .inr (3, [.ref q35, .ref q36, .int 0])), (q35, .inl (g.2.2.2.2.1, 64, .inl (fun _ => 0))), (q36, .inl (g.2.2.2.2.2.1, 64, .inr (.inl (fun _ => 0))))]) [38] [0, 1, 2, 3, 4, 5, 6, 7, 8, 9, 10, 11, 12, 13, 14, 15, 16, 17, 18, 19, 20, 21, 22, 23, 24, 25, 26, 27, 28, 29, 30, 31, 32, 33, 34, 35, 36, 37] hC hA hN hAO DX7_init_107 CI_X3_init "PodMarks" (by decide) (k_X3_init (b := q37)) rfl rfl (by decide) (by decide) (by decide) rfl rfl (by decide) (by decide) (Nat.le_of_ble_eq_true rfl) (Nat.le_of_ble_eq_true rfl) (Nat.le_of_ble_eq_true rfl) (fun w hw => ?_)
  obtain ⟨q38, q39, rfl⟩ := hw
  refine v_eq (ws' := [(b, .inr (7, [.ref q0, .ref q1, .ref q2, .ref q5, .ref q8, .ref q10, .ref q17, .ref q21])), (q0, .inr (1, [.int 7, .int 0, .int 1, .int 0])), (q1, .inl (g.2.2.2.2.2.2.2, 6, .inr (.inr (.inr (.inr (va_up (va_up (va_up (va_up (fun _ => none) 0 (some q25)) 1 (some q28)) 2 (some q31)) 3 (some q34))))))), (q2, .inr (3, [.ref q3, .ref q4, .int 0])), (q3, .inl (g.2.2.2.2.1, 64, .inl (fun _ => 0))), (q4, .inl (g.2.2.2.2.2.1, 64, .inr (.inl (fun _ => 0)))), (q5, .inr (4, [.ref q6, .ref q7, .int 0])), (q7, .inl (g.2.2.2.2.2.1, 64, .inr (.inl (fun _ => 0)))), (q6, .inl (g.2.2.2.2.1, 12, .inl (ffill 12))), (q8, .inr (6, [.ref q9, .int 0, .int 0, .int 0, .int 0])), (q9, .inl (g.2.2.2.2.1, 120, .inl (fun _ => 0))), (q10, .inr (5, [.ref q11, .ref q12, .ref q13, .int 0, .int 0, .int (-1), .ref q14, .ref q15, .ref q16, .int 0, .int 1])), (q11, .inl (g.2.2.2.2.1, 120, .inl (fun _ => 0))), (q12, .inl (g.2.2.2.2.1, 120, .inl (fun _ => 0))), (q13, .inl (g.2.2.2.2.1, 120, .inl (fun _ => 0))), (q14, .inl (g.2.2.2.2.2.2.1, 5, .inl (fun _ => 0))), (q15, .inl (g.2.2.2.2.2.2.1, 5, .inl (fun _ => 0))), (q16, .inl (g.2.2.2.2.2.2.1, 5, .inl (fun _ => 0))), (q17, .inr (2, [.ref q18, .ref q19, .ref q20, .int 0, .int (-1), .int 0])), (q18, .inl (g.2.2.2.2.1, 32, .inl (fun _ => 0))), (q19, .inl (g.2.2.2.2.2.1, 32, .inr (.inl (fun _ => 0)))), (q20, .inl (g.2.2.2.2.1, 33, .inl (fun _ => 0))), (q21, .inr (0, [.ref q22, .ref q23, .ref q24, .int 0, .int 0, .int 0, .int (-1), .long 0])), (q22, .inl (g.2.2.2.2.1, 64, .inl (fun _ => 0))), (q23, .inl (g.2.2.2.2.1, 64, .inl (fun _ => 0))), (q24, .inl (g.2.2.2.2.1, 3, .inl (fun _ => 0))), (q25, .inr (3, [.ref q26, .ref q27, .int 0])), (q26, .inl (g.2.2.2.2.1, 64, .inl (fun _ => 0))), (q27, .inl (g.2.2.2.2.2.1, 64, .inr (.inl (fun _ => 0)))), (q28, .inr (3, [.ref q29, .ref q30, .int 0])), (q29, .inl (g.2.2.2.2.1, 64, .inl (fun _ => 0))), (q30, .inl (g.2.2.2.2.2.1, 64, .inr (.inl (fun _ => 0)))), (q31, .inr (3, [.ref q32, .ref q33, .int 0])), (q32, .inl (g.2.2.2.2.1, 64, .inl (fun _ => 0))), (q33, .inl (g.2.2.2.2.2.1, 64, .inr (.inl (fun _ => 0)))), (q34, .inr (3, [.ref q35, .ref q36, .int 0])), (q35, .inl (g.2.2.2.2.1, 64, .inl (fun _ => 0))), (q36, .inl (g.2.2.2.2.2.1, 64, .inr (.inl (fun _ => 0)))), (q37, .inr (3, [.ref q38, .ref q39, .int 0])), (q38, .inl (g.2.2.2.2.1, 64, .inl (fun _ => 0))), (q39, .inl (g.2.2.2.2.2.1, 64, .inr (.inl (fun _ => 0))))]) rfl ?_
  refine v_astq (ws' := [(b, .inr (7, [.ref q0, .ref q1, .ref q2, .ref q5, .ref q8, .ref q10, .ref q17, .ref q21])), (q0, .inr (1, [.int 7, .int 0, .int 1, .int 0])), (q1, .inl (g.2.2.2.2.2.2.2, 6, .inr (.inr (.inr (.inr (va_up (va_up (va_up (va_up (va_up (fun _ => none) 0 (some q25)) 1 (some q28)) 2 (some q31)) 3 (some q34)) 4 (some q37))))))), (q2, .inr (3, [.ref q3, .ref q4, .int 0])), (q3, .inl (g.2.2.2.2.1, 64, .inl (fun _ => 0))), (q4, .inl (g.2.2.2.2.2.1, 64, .inr (.inl (fun _ => 0)))), (q5, .inr (4, [.ref q6, .ref q7, .int 0])), (q7, .inl (g.2.2.2.2.2.1, 64, .inr (.inl (fun _ => 0)))), (q6, .inl (g.2.2.2.2.1, 12, .inl (ffill 12))), (q8, .inr (6, [.ref q9, .int 0, .int 0, .int 0, .int 0])), (q9, .inl (g.2.2.2.2.1, 120, .inl (fun _ => 0))), (q10, .inr (5, [.ref q11, .ref q12, .ref q13, .int 0, .int 0, .int (-1), .ref q14, .ref q15, .ref q16, .int 0, .int 1])), (q11, .inl (g.2.2.2.2.1, 120, .inl (fun _ => 0))), (q12, .inl (g.2.2.2.2.1, 120, .inl (fun _ => 0))), (q13, .inl (g.2.2.2.2.1, 120, .inl (fun _ => 0))), (q14, .inl (g.2.2.2.2.2.2.1, 5, .inl (fun _ => 0))), (q15, .inl (g.2.2.2.2.2.2.1, 5, .inl (fun _ => 0))), (q16, .inl (g.2.2.2.2.2.2.1, 5, .inl (fun _ => 0))), (q17, .inr (2, [.ref q18, .ref q19, .ref q20, .int 0, .int (-1), .int 0])), (q18, .inl (g.2.2.2.2.1, 32, .inl (fun _ => 0))), (q19, .inl (g.2.2.2.2.2.1, 32, .inr (.inl (fun _ => 0)))), (q20, .inl (g.2.2.2.2.1, 33, .inl (fun _ => 0))), (q21, .inr (0, [.ref q22, .ref q23, .ref q24, .int 0, .int 0, .int 0, .int (-1), .long 0])), (q22, .inl (g.2.2.2.2.1, 64, .inl (fun _ => 0))), (q23, .inl (g.2.2.2.2.1, 64, .inl (fun _ => 0))), (q24, .inl (g.2.2.2.2.1, 3, .inl (fun _ => 0))), (q25, .inr (3, [.ref q26, .ref q27, .int 0])), (q26, .inl (g.2.2.2.2.1, 64, .inl (fun _ => 0))), (q27, .inl (g.2.2.2.2.2.1, 64, .inr (.inl (fun _ => 0)))), (q28, .inr (3, [.ref q29, .ref q30, .int 0])), (q29, .inl (g.2.2.2.2.1, 64, .inl (fun _ => 0))), (q30, .inl (g.2.2.2.2.2.1, 64, .inr (.inl (fun _ => 0)))), (q31, .inr (3, [.ref q32, .ref q33, .int 0])), (q32, .inl (g.2.2.2.2.1, 64, .inl (fun _ => 0))), (q33, .inl (g.2.2.2.2.2.1, 64, .inr (.inl (fun _ => 0)))), (q34, .inr (3, [.ref q35, .ref q36, .int 0])), (q35, .inl (g.2.2.2.2.1, 64, .inl (fun _ => 0))), (q36, .inl (g.2.2.2.2.2.1, 64, .inr (.inl (fun _ => 0)))), (q37, .inr (3, [.ref q38, .ref q39, .int 0])), (q38, .inl (g.2.2.2.2.1, 64, .inl (fun _ => 0))), (q39, .inl (g.2.2.2.2.2.1, 64, .inr (.inl (fun _ => 0))))]) (q0 := 2) (qk := 38) hC DX7_init_110 rfl rfl (x_vin (by decide)) rfl ?_
  refine v_iinc (L' := [some (.ref b), some (.int 5)]) hC DX7_init_111 (x := 4) (v := 5) rfl (by decide) (by decide) rfl rfl ?_
  refine v_goto hC DX7_init_114 (tgt := 92) (by decide) ?_
  refine v_iload_n hC DX7_init_92 (i := 1) rfl rfl ?_
  refine v_bipush hC DX7_init_93 (v := 6) (by decide) ?_
  refine v_icmp_ge hC DX7_init_95 (tgt := 117) (by decide) (fun c => absurd c (by decide)) (fun _ => ?_)
  refine v_aload_n hC DX7_init_98 (i := 0) rfl rfl ?_
  refine v_get (q0 := 0) (v := .ref q1) hC DX7_init_99 G_X7_18 rfl rfl ?_
  refine v_iload_n hC DX7_init_102 (i := 1) rfl rfl ?_
  refine v_new (ty := tyX3) (fs := [.null, .null, .int 0]) hC hA DX7_init_103 i_X3 tyX3_ok CN_X7_16 IN_X3.1 IN_X3.2 (ci := 3) rfl DF_X3 (Nat.le_of_ble_eq_true rfl) (Nat.le_of_ble_eq_true rfl) (fun q40 => ?_)
  refine v_eq (ws' := [(b, .inr (7, [.ref q0, .ref q1, .ref q2, .ref q5, .ref q8, .ref q10, .ref q17, .ref q21])), (q0, .inr (1, [.int 7, .int 0, .int 1, .int 0])), (q1, .inl (g.2.2.2.2.2.2.2, 6, .inr (.inr (.inr (.inr (va_up (va_up (va_up (va_up (va_up (fun _ => none) 0 (some q25)) 1 (some q28)) 2 (some q31)) 3 (some q34)) 4 (some q37))))))), (q2, .inr (3, [.ref q3, .ref q4, .int 0])), (q3, .inl (g.2.2.2.2.1, 64, .inl (fun _ => 0))), (q4, .inl (g.2.2.2.2.2.1, 64, .inr (.inl (fun _ => 0)))), (q5, .inr (4, [.ref q6, .ref q7, .int 0])), (q7, .inl (g.2.2.2.2.2.1, 64, .inr (.inl (fun _ => 0)))), (q6, .inl (g.2.2.2.2.1, 12, .inl (ffill 12))), (q8, .inr (6, [.ref q9, .int 0, .int 0, .int 0, .int 0])), (q9, .inl (g.2.2.2.2.1, 120, .inl (fun _ => 0))), (q10, .inr (5, [.ref q11, .ref q12, .ref q13, .int 0, .int 0, .int (-1), .ref q14, .ref q15, .ref q16, .int 0, .int 1])), (q11, .inl (g.2.2.2.2.1, 120, .inl (fun _ => 0))), (q12, .inl (g.2.2.2.2.1, 120, .inl (fun _ => 0))), (q13, .inl (g.2.2.2.2.1, 120, .inl (fun _ => 0))), (q14, .inl (g.2.2.2.2.2.2.1, 5, .inl (fun _ => 0))), (q15, .inl (g.2.2.2.2.2.2.1, 5, .inl (fun _ => 0))), (q16, .inl (g.2.2.2.2.2.2.1, 5, .inl (fun _ => 0))), (q17, .inr (2, [.ref q18, .ref q19, .ref q20, .int 0, .int (-1), .int 0])), (q18, .inl (g.2.2.2.2.1, 32, .inl (fun _ => 0))), (q19, .inl (g.2.2.2.2.2.1, 32, .inr (.inl (fun _ => 0)))), (q20, .inl (g.2.2.2.2.1, 33, .inl (fun _ => 0))), (q21, .inr (0, [.ref q22, .ref q23, .ref q24, .int 0, .int 0, .int 0, .int (-1), .long 0])), (q22, .inl (g.2.2.2.2.1, 64, .inl (fun _ => 0))), (q23, .inl (g.2.2.2.2.1, 64, .inl (fun _ => 0))), (q24, .inl (g.2.2.2.2.1, 3, .inl (fun _ => 0))), (q25, .inr (3, [.ref q26, .ref q27, .int 0])), (q26, .inl (g.2.2.2.2.1, 64, .inl (fun _ => 0))), (q27, .inl (g.2.2.2.2.2.1, 64, .inr (.inl (fun _ => 0)))), (q28, .inr (3, [.ref q29, .ref q30, .int 0])), (q29, .inl (g.2.2.2.2.1, 64, .inl (fun _ => 0))), (q30, .inl (g.2.2.2.2.2.1, 64, .inr (.inl (fun _ => 0)))), (q31, .inr (3, [.ref q32, .ref q33, .int 0])), (q32, .inl (g.2.2.2.2.1, 64, .inl (fun _ => 0))), (q33, .inl (g.2.2.2.2.2.1, 64, .inr (.inl (fun _ => 0)))), (q34, .inr (3, [.ref q35, .ref q36, .int 0])), (q35, .inl (g.2.2.2.2.1, 64, .inl (fun _ => 0))), (q36, .inl (g.2.2.2.2.2.1, 64, .inr (.inl (fun _ => 0)))), (q37, .inr (3, [.ref q38, .ref q39, .int 0])), (q38, .inl (g.2.2.2.2.1, 64, .inl (fun _ => 0))), (q39, .inl (g.2.2.2.2.2.1, 64, .inr (.inl (fun _ => 0)))), (q40, .inr (3, [.null, .null, .int 0]))]) rfl ?_
  refine v_dup hC DX7_init_106 rfl ?_
  refine v_callIN (wr := [(b, .inr (7, [.ref q0, .ref q1, .ref q2, .ref q5, .ref q8, .ref q10, .ref q17, .ref q21])), (q0, .inr (1, [.int 7, .int 0, .int 1, .int 0])), (q1, .inl (g.2.2.2.2.2.2.2, 6, .inr (.inr (.inr (.inr (va_up (va_up (va_up (va_up (va_up (fun _ => none) 0 (some q25)) 1 (some q28)) 2 (some q31)) 3 (some q34)) 4 (some q37))))))), (q2, .inr (3, [.ref q3, .ref q4, .int 0])), (q3, .inl (g.2.2.2.2.1, 64, .inl (fun _ => 0))), (q4, .inl (g.2.2.2.2.2.1, 64, .inr (.inl (fun _ => 0)))), (q5, .inr (4, [.ref q6, .ref q7, .int 0])), (q7, .inl (g.2.2.2.2.2.1, 64, .inr (.inl (fun _ => 0)))), (q6, .inl (g.2.2.2.2.1, 12, .inl (ffill 12))), (q8, .inr (6, [.ref q9, .int 0, .int 0, .int 0, .int 0])), (q9, .inl (g.2.2.2.2.1, 120, .inl (fun _ => 0))), (q10, .inr (5, [.ref q11, .ref q12, .ref q13, .int 0, .int 0, .int (-1), .ref q14, .ref q15, .ref q16, .int 0, .int 1])), (q11, .inl (g.2.2.2.2.1, 120, .inl (fun _ => 0))), (q12, .inl (g.2.2.2.2.1, 120, .inl (fun _ => 0))), (q13, .inl (g.2.2.2.2.1, 120, .inl (fun _ => 0))), (q14, .inl (g.2.2.2.2.2.2.1, 5, .inl (fun _ => 0))), (q15, .inl (g.2.2.2.2.2.2.1, 5, .inl (fun _ => 0))), (q16, .inl (g.2.2.2.2.2.2.1, 5, .inl (fun _ => 0))), (q17, .inr (2, [.ref q18, .ref q19, .ref q20, .int 0, .int (-1), .int 0])), (q18, .inl (g.2.2.2.2.1, 32, .inl (fun _ => 0))), (q19, .inl (g.2.2.2.2.2.1, 32, .inr (.inl (fun _ => 0)))), (q20, .inl (g.2.2.2.2.1, 33, .inl (fun _ => 0))), (q21, .inr (0, [.ref q22, .ref q23, .ref q24, .int 0, .int 0, .int 0, .int (-1), .long 0])), (q22, .inl (g.2.2.2.2.1, 64, .inl (fun _ => 0))), (q23, .inl (g.2.2.2.2.1, 64, .inl (fun _ => 0))), (q24, .inl (g.2.2.2.2.1, 3, .inl (fun _ => 0))), (q25, .inr (3, [.ref q26, .ref q27, .int 0])), (q26, .inl (g.2.2.2.2.1, 64, .inl (fun _ => 0))), (q27, .inl (g.2.2.2.2.2.1, 64, .inr (.inl (fun _ => 0)))), (q28, .inr (3, [.ref q29, .ref q30, .int 0])), (q29, .inl (g.2.2.2.2.1, 64, .inl (fun _ => 0))), (q30, .inl (g.2.2.2.2.2.1, 64, .inr (.inl (fun _ => 0)))), (q31, .inr (3, [.ref q32, .ref q33, .int 0])), (q32, .inl (g.2.2.2.2.1, 64, .inl (fun _ => 0))), (q33, .inl (g.2.2.2.2.2.1, 64, .inr (.inl (fun _ => 0)))), (q34, .inr (3, [.ref q35, .ref q36, .int 0])), (q35, .inl (g.2.2.2.2.1, 64, .inl (fun _ => 0))), (q36, .inl (g.2.2.2.2.2.1, 64, .inr (.inl (fun _ => 0)))), (q37, .inr (3, [.ref q38, .ref q39, .int 0])), (q38, .inl (g.2.2.2.2.1, 64, .inl (fun _ => 0))), (q39, .inl (g.2.2.2.2.2.1, 64, .inr (.inl (fun _ => 0))))]) [41] [0, 1, 2, 3, 4, 5, 6, 7, 8, 9, 10, 11, 12, 13, 14, 15, 16, 17, 18, 19, 20, 21, 22, 23, 24, 25, 26, 27, 28, 29, 30, 31, 32, 33, 34, 35, 36, 37, 38, 39, 40] hC hA hN hAO DX7_init_107 CI_X3_init "PodMarks" (by decide) (k_X3_init (b := q40)) rfl rfl (by decide) (by decide) (by decide) rfl rfl (by decide) (by decide) (Nat.le_of_ble_eq_true rfl) (Nat.le_of_ble_eq_true rfl) (Nat.le_of_ble_eq_true rfl) (fun w hw => ?_)
  obtain ⟨q41, q42, rfl⟩ := hw
  refine v_eq (ws' := [(b, .inr (7, [.ref q0, .ref q1, .ref q2, .ref q5, .ref q8, .ref q10, .ref q17, .ref q21])), (q0, .inr (1, [.int 7, .int 0, .int 1, .int 0])), (q1, .inl (g.2.2.2.2.2.2.2, 6, .inr (.inr (.inr (.inr (va_up (va_up (va_up (va_up (va_up (fun _ => none) 0 (some q25)) 1 (some q28)) 2 (some q31)) 3 (some q34)) 4 (some q37))))))), (q2, .inr (3, [.ref q3, .ref q4, .int 0])), (q3, .inl (g.2.2.2.2.1, 64, .inl (fun _ => 0))), (q4, .inl (g.2.2.2.2.2.1, 64, .inr (.inl (fun _ => 0)))), (q5, .inr (4, [.ref q6, .ref q7, .int 0])), (q7, .inl (g.2.2.2.2.2.1, 64, .inr (.inl (fun _ => 0)))), (q6, .inl (g.2.2.2.2.1, 12, .inl (ffill 12))), (q8, .inr (6, [.ref q9, .int 0, .int 0, .int 0, .int 0])), (q9, .inl (g.2.2.2.2.1, 120, .inl (fun _ => 0))), (q10, .inr (5, [.ref q11, .ref q12, .ref q13, .int 0, .int 0, .int (-1), .ref q14, .ref q15, .ref q16, .int 0, .int 1])), (q11, .inl (g.2.2.2.2.1, 120, .inl (fun _ => 0))), (q12, .inl (g.2.2.2.2.1, 120, .inl (fun _ => 0))), (q13, .inl (g.2.2.2.2.1, 120, .inl (fun _ => 0))), (q14, .inl (g.2.2.2.2.2.2.1, 5, .inl (fun _ => 0))), (q15, .inl (g.2.2.2.2.2.2.1, 5, .inl (fun _ => 0))), (q16, .inl (g.2.2.2.2.2.2.1, 5, .inl (fun _ => 0))), (q17, .inr (2, [.ref q18, .ref q19, .ref q20, .int 0, .int (-1), .int 0])), (q18, .inl (g.2.2.2.2.1, 32, .inl (fun _ => 0))), (q19, .inl (g.2.2.2.2.2.1, 32, .inr (.inl (fun _ => 0)))), (q20, .inl (g.2.2.2.2.1, 33, .inl (fun _ => 0))), (q21, .inr (0, [.ref q22, .ref q23, .ref q24, .int 0, .int 0, .int 0, .int (-1), .long 0])), (q22, .inl (g.2.2.2.2.1, 64, .inl (fun _ => 0))), (q23, .inl (g.2.2.2.2.1, 64, .inl (fun _ => 0))), (q24, .inl (g.2.2.2.2.1, 3, .inl (fun _ => 0))), (q25, .inr (3, [.ref q26, .ref q27, .int 0])), (q26, .inl (g.2.2.2.2.1, 64, .inl (fun _ => 0))), (q27, .inl (g.2.2.2.2.2.1, 64, .inr (.inl (fun _ => 0)))), (q28, .inr (3, [.ref q29, .ref q30, .int 0])), (q29, .inl (g.2.2.2.2.1, 64, .inl (fun _ => 0))), (q30, .inl (g.2.2.2.2.2.1, 64, .inr (.inl (fun _ => 0)))), (q31, .inr (3, [.ref q32, .ref q33, .int 0])), (q32, .inl (g.2.2.2.2.1, 64, .inl (fun _ => 0))), (q33, .inl (g.2.2.2.2.2.1, 64, .inr (.inl (fun _ => 0)))), (q34, .inr (3, [.ref q35, .ref q36, .int 0])), (q35, .inl (g.2.2.2.2.1, 64, .inl (fun _ => 0))), (q36, .inl (g.2.2.2.2.2.1, 64, .inr (.inl (fun _ => 0)))), (q37, .inr (3, [.ref q38, .ref q39, .int 0])), (q38, .inl (g.2.2.2.2.1, 64, .inl (fun _ => 0))), (q39, .inl (g.2.2.2.2.2.1, 64, .inr (.inl (fun _ => 0)))), (q40, .inr (3, [.ref q41, .ref q42, .int 0])), (q41, .inl (g.2.2.2.2.1, 64, .inl (fun _ => 0))), (q42, .inl (g.2.2.2.2.2.1, 64, .inr (.inl (fun _ => 0))))]) rfl ?_
  refine v_astq (ws' := [(b, .inr (7, [.ref q0, .ref q1, .ref q2, .ref q5, .ref q8, .ref q10, .ref q17, .ref q21])), (q0, .inr (1, [.int 7, .int 0, .int 1, .int 0])), (q1, .inl (g.2.2.2.2.2.2.2, 6, .inr (.inr (.inr (.inr (va_up (va_up (va_up (va_up (va_up (va_up (fun _ => none) 0 (some q25)) 1 (some q28)) 2 (some q31)) 3 (some q34)) 4 (some q37)) 5 (some q40))))))), (q2, .inr (3, [.ref q3, .ref q4, .int 0])), (q3, .inl (g.2.2.2.2.1, 64, .inl (fun _ => 0))), (q4, .inl (g.2.2.2.2.2.1, 64, .inr (.inl (fun _ => 0)))), (q5, .inr (4, [.ref q6, .ref q7, .int 0])), (q7, .inl (g.2.2.2.2.2.1, 64, .inr (.inl (fun _ => 0)))), (q6, .inl (g.2.2.2.2.1, 12, .inl (ffill 12))), (q8, .inr (6, [.ref q9, .int 0, .int 0, .int 0, .int 0])), (q9, .inl (g.2.2.2.2.1, 120, .inl (fun _ => 0))), (q10, .inr (5, [.ref q11, .ref q12, .ref q13, .int 0, .int 0, .int (-1), .ref q14, .ref q15, .ref q16, .int 0, .int 1])), (q11, .inl (g.2.2.2.2.1, 120, .inl (fun _ => 0))), (q12, .inl (g.2.2.2.2.1, 120, .inl (fun _ => 0))), (q13, .inl (g.2.2.2.2.1, 120, .inl (fun _ => 0))), (q14, .inl (g.2.2.2.2.2.2.1, 5, .inl (fun _ => 0))), (q15, .inl (g.2.2.2.2.2.2.1, 5, .inl (fun _ => 0))), (q16, .inl (g.2.2.2.2.2.2.1, 5, .inl (fun _ => 0))), (q17, .inr (2, [.ref q18, .ref q19, .ref q20, .int 0, .int (-1), .int 0])), (q18, .inl (g.2.2.2.2.1, 32, .inl (fun _ => 0))), (q19, .inl (g.2.2.2.2.2.1, 32, .inr (.inl (fun _ => 0)))), (q20, .inl (g.2.2.2.2.1, 33, .inl (fun _ => 0))), (q21, .inr (0, [.ref q22, .ref q23, .ref q24, .int 0, .int 0, .int 0, .int (-1), .long 0])), (q22, .inl (g.2.2.2.2.1, 64, .inl (fun _ => 0))), (q23, .inl (g.2.2.2.2.1, 64, .inl (fun _ => 0))), (q24, .inl (g.2.2.2.2.1, 3, .inl (fun _ => 0))), (q25, .inr (3, [.ref q26, .ref q27, .int 0])), (q26, .inl (g.2.2.2.2.1, 64, .inl (fun _ => 0))), (q27, .inl (g.2.2.2.2.2.1, 64, .inr (.inl (fun _ => 0)))), (q28, .inr (3, [.ref q29, .ref q30, .int 0])), (q29, .inl (g.2.2.2.2.1, 64, .inl (fun _ => 0))), (q30, .inl (g.2.2.2.2.2.1, 64, .inr (.inl (fun _ => 0)))), (q31, .inr (3, [.ref q32, .ref q33, .int 0])), (q32, .inl (g.2.2.2.2.1, 64, .inl (fun _ => 0))), (q33, .inl (g.2.2.2.2.2.1, 64, .inr (.inl (fun _ => 0)))), (q34, .inr (3, [.ref q35, .ref q36, .int 0])), (q35, .inl (g.2.2.2.2.1, 64, .inl (fun _ => 0))), (q36, .inl (g.2.2.2.2.2.1, 64, .inr (.inl (fun _ => 0)))), (q37, .inr (3, [.ref q38, .ref q39, .int 0])), (q38, .inl (g.2.2.2.2.1, 64, .inl (fun _ => 0))), (q39, .inl (g.2.2.2.2.2.1, 64, .inr (.inl (fun _ => 0)))), (q40, .inr (3, [.ref q41, .ref q42, .int 0])), (q41, .inl (g.2.2.2.2.1, 64, .inl (fun _ => 0))), (q42, .inl (g.2.2.2.2.2.1, 64, .inr (.inl (fun _ => 0))))]) (q0 := 2) (qk := 41) hC DX7_init_110 rfl rfl (x_vin (by decide)) rfl ?_
  refine v_iinc (L' := [some (.ref b), some (.int 6)]) hC DX7_init_111 (x := 5) (v := 6) rfl (by decide) (by decide) rfl rfl ?_
  refine v_goto hC DX7_init_114 (tgt := 92) (by decide) ?_
  refine v_iload_n hC DX7_init_92 (i := 1) rfl rfl ?_
  refine v_bipush hC DX7_init_93 (v := 6) (by decide) ?_
  refine v_icmp_ge hC DX7_init_95 (tgt := 117) (by decide) (fun _ => ?_) (fun c => absurd (by decide) c)
  refine v_perm (ws' := [(b, .inr (7, [.ref q0, .ref q1, .ref q2, .ref q5, .ref q8, .ref q10, .ref q17, .ref q21])), (q0, .inr (1, [.int 7, .int 0, .int 1, .int 0])), (q1, .inl (g.2.2.2.2.2.2.2, 6, .inr (.inr (.inr (.inr (va_up (va_up (va_up (va_up (va_up (va_up (fun _ => none) 0 (some q25)) 1 (some q28)) 2 (some q31)) 3 (some q34)) 4 (some q37)) 5 (some q40))))))), (q5, .inr (4, [.ref q6, .ref q7, .int 0])), (q6, .inl (g.2.2.2.2.1, 12, .inl (ffill 12))), (q7, .inl (g.2.2.2.2.2.1, 64, .inr (.inl (fun _ => 0)))), (q8, .inr (6, [.ref q9, .int 0, .int 0, .int 0, .int 0])), (q9, .inl (g.2.2.2.2.1, 120, .inl (fun _ => 0))), (q10, .inr (5, [.ref q11, .ref q12, .ref q13, .int 0, .int 0, .int (-1), .ref q14, .ref q15, .ref q16, .int 0, .int 1])), (q11, .inl (g.2.2.2.2.1, 120, .inl (fun _ => 0))), (q12, .inl (g.2.2.2.2.1, 120, .inl (fun _ => 0))), (q13, .inl (g.2.2.2.2.1, 120, .inl (fun _ => 0))), (q14, .inl (g.2.2.2.2.2.2.1, 5, .inl (fun _ => 0))), (q15, .inl (g.2.2.2.2.2.2.1, 5, .inl (fun _ => 0))), (q16, .inl (g.2.2.2.2.2.2.1, 5, .inl (fun _ => 0))), (q17, .inr (2, [.ref q18, .ref q19, .ref q20, .int 0, .int (-1), .int 0])), (q18, .inl (g.2.2.2.2.1, 32, .inl (fun _ => 0))), (q19, .inl (g.2.2.2.2.2.1, 32, .inr (.inl (fun _ => 0)))), (q20, .inl (g.2.2.2.2.1, 33, .inl (fun _ => 0))), (q21, .inr (0, [.ref q22, .ref q23, .ref q24, .int 0, .int 0, .int 0, .int (-1), .long 0])), (q22, .inl (g.2.2.2.2.1, 64, .inl (fun _ => 0))), (q23, .inl (g.2.2.2.2.1, 64, .inl (fun _ => 0))), (q24, .inl (g.2.2.2.2.1, 3, .inl (fun _ => 0))), (q25, .inr (3, [.ref q26, .ref q27, .int 0])), (q28, .inr (3, [.ref q29, .ref q30, .int 0])), (q31, .inr (3, [.ref q32, .ref q33, .int 0])), (q34, .inr (3, [.ref q35, .ref q36, .int 0])), (q37, .inr (3, [.ref q38, .ref q39, .int 0])), (q40, .inr (3, [.ref q41, .ref q42, .int 0])), (q2, .inr (3, [.ref q3, .ref q4, .int 0])), (q26, .inl (g.2.2.2.2.1, 64, .inl (fun _ => 0))), (q29, .inl (g.2.2.2.2.1, 64, .inl (fun _ => 0))), (q32, .inl (g.2.2.2.2.1, 64, .inl (fun _ => 0))), (q35, .inl (g.2.2.2.2.1, 64, .inl (fun _ => 0))), (q38, .inl (g.2.2.2.2.1, 64, .inl (fun _ => 0))), (q41, .inl (g.2.2.2.2.1, 64, .inl (fun _ => 0))), (q3, .inl (g.2.2.2.2.1, 64, .inl (fun _ => 0))), (q27, .inl (g.2.2.2.2.2.1, 64, .inr (.inl (fun _ => 0)))), (q30, .inl (g.2.2.2.2.2.1, 64, .inr (.inl (fun _ => 0)))), (q33, .inl (g.2.2.2.2.2.1, 64, .inr (.inl (fun _ => 0)))), (q36, .inl (g.2.2.2.2.2.1, 64, .inr (.inl (fun _ => 0)))), (q39, .inl (g.2.2.2.2.2.1, 64, .inr (.inl (fun _ => 0)))), (q42, .inl (g.2.2.2.2.2.1, 64, .inr (.inl (fun _ => 0)))), (q4, .inl (g.2.2.2.2.2.1, 64, .inr (.inl (fun _ => 0))))]) [0, 1, 2, 6, 8, 7, 9, 10, 11, 12, 13, 14, 15, 16, 17, 18, 19, 20, 21, 22, 23, 24, 25, 26, 29, 32, 35, 38, 41, 3, 27, 30, 33, 36, 39, 42, 4, 28, 31, 34, 37, 40, 43, 5] (by decide) rfl ?_
  refine v_cellq (ws' := [(b, .inr (7, [.ref q0, .ref q1, .ref q2, .ref q5, .ref q8, .ref q10, .ref q17, .ref q21])), (q0, .inr (1, [.int 7, .int 0, .int 1, .int 0])), (q1, .inl (g.2.2.2.2.2.2.2, 6, .inr (.inr (.inr (.inr (fun i => some ([b, q0, q1, q5, q6, q7, q8, q9, q10, q11, q12, q13, q14, q15, q16, q17, q18, q19, q20, q21, q22, q23, q24, q25, q28, q31, q34, q37, q40, q2, q26, q29, q32, q35, q38, q41, q3, q27, q30, q33, q36, q39, q42, q4].getD (23 + i) 0))))))), (q5, .inr (4, [.ref q6, .ref q7, .int 0])), (q6, .inl (g.2.2.2.2.1, 12, .inl (ffill 12))), (q7, .inl (g.2.2.2.2.2.1, 64, .inr (.inl (fun _ => 0)))), (q8, .inr (6, [.ref q9, .int 0, .int 0, .int 0, .int 0])), (q9, .inl (g.2.2.2.2.1, 120, .inl (fun _ => 0))), (q10, .inr (5, [.ref q11, .ref q12, .ref q13, .int 0, .int 0, .int (-1), .ref q14, .ref q15, .ref q16, .int 0, .int 1])), (q11, .inl (g.2.2.2.2.1, 120, .inl (fun _ => 0))), (q12, .inl (g.2.2.2.2.1, 120, .inl (fun _ => 0))), (q13, .inl (g.2.2.2.2.1, 120, .inl (fun _ => 0))), (q14, .inl (g.2.2.2.2.2.2.1, 5, .inl (fun _ => 0))), (q15, .inl (g.2.2.2.2.2.2.1, 5, .inl (fun _ => 0))), (q16, .inl (g.2.2.2.2.2.2.1, 5, .inl (fun _ => 0))), (q17, .inr (2, [.ref q18, .ref q19, .ref q20, .int 0, .int (-1), .int 0])), (q18, .inl (g.2.2.2.2.1, 32, .inl (fun _ => 0))), (q19, .inl (g.2.2.2.2.2.1, 32, .inr (.inl (fun _ => 0)))), (q20, .inl (g.2.2.2.2.1, 33, .inl (fun _ => 0))), (q21, .inr (0, [.ref q22, .ref q23, .ref q24, .int 0, .int 0, .int 0, .int (-1), .long 0])), (q22, .inl (g.2.2.2.2.1, 64, .inl (fun _ => 0))), (q23, .inl (g.2.2.2.2.1, 64, .inl (fun _ => 0))), (q24, .inl (g.2.2.2.2.1, 3, .inl (fun _ => 0))), (q25, .inr (3, [.ref q26, .ref q27, .int 0])), (q28, .inr (3, [.ref q29, .ref q30, .int 0])), (q31, .inr (3, [.ref q32, .ref q33, .int 0])), (q34, .inr (3, [.ref q35, .ref q36, .int 0])), (q37, .inr (3, [.ref q38, .ref q39, .int 0])), (q40, .inr (3, [.ref q41, .ref q42, .int 0])), (q2, .inr (3, [.ref q3, .ref q4, .int 0])), (q26, .inl (g.2.2.2.2.1, 64, .inl (fun _ => 0))), (q29, .inl (g.2.2.2.2.1, 64, .inl (fun _ => 0))), (q32, .inl (g.2.2.2.2.1, 64, .inl (fun _ => 0))), (q35, .inl (g.2.2.2.2.1, 64, .inl (fun _ => 0))), (q38, .inl (g.2.2.2.2.1, 64, .inl (fun _ => 0))), (q41, .inl (g.2.2.2.2.1, 64, .inl (fun _ => 0))), (q3, .inl (g.2.2.2.2.1, 64, .inl (fun _ => 0))), (q27, .inl (g.2.2.2.2.2.1, 64, .inr (.inl (fun _ => 0)))), (q30, .inl (g.2.2.2.2.2.1, 64, .inr (.inl (fun _ => 0)))), (q33, .inl (g.2.2.2.2.2.1, 64, .inr (.inl (fun _ => 0)))), (q36, .inl (g.2.2.2.2.2.1, 64, .inr (.inl (fun _ => 0)))), (q39, .inl (g.2.2.2.2.2.1, 64, .inr (.inl (fun _ => 0)))), (q42, .inl (g.2.2.2.2.2.1, 64, .inr (.inl (fun _ => 0)))), (q4, .inl (g.2.2.2.2.2.1, 64, .inr (.inl (fun _ => 0))))]) (q0 := 2) (f' := (fun i => some ([b, q0, q1, q5, q6, q7, q8, q9, q10, q11, q12, q13, q14, q15, q16, q17, q18, q19, q20, q21, q22, q23, q24, q25, q28, q31, q34, q37, q40, q2, q26, q29, q32, q35, q38, q41, q3, q27, q30, q33, q36, q39, q42, q4].getD (23 + i) 0))) rfl (fun i hi => by rcases (show i = 0 ∨ i = 1 ∨ i = 2 ∨ i = 3 ∨ i = 4 ∨ i = 5 by omega) with rfl | rfl | rfl | rfl | rfl | rfl <;> rfl) rfl ?_
  exact v_vret hC DX7_init_117 rfl ⟨fun k => [b, q0, q1, q5, q6, q7, q8, q9, q10, q11, q12, q13, q14, q15, q16, q17, q18, q19, q20, q21, q22, q23, q24, q25, q28, q31, q34, q37, q40, q2, q26, q29, q32, q35, q38, q41, q3, q27, q30, q33, q36, q39, q42, q4].getD k 0, rfl, rfl⟩
