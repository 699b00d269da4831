/-! how many bits of a long: the JDK's way -/
theorem zfl_8 (p : Nat → Bool) : zfl p 0 8 ≤ 8 := zfl_le p 0 8
theorem z_bc64 (x : Int64) : f_J13_bitCount_95d88 x = some (nI (zp64 x)) := by
  have hx := zT_lt x
  have m5 : zT 6148914691236517205 = zrp 85 8 := by decide +kernel
  have m3 : zT 3689348814741910323 = zrp 51 8 := by decide +kernel
  have mf : zT 1085102592571150095 = zrp 15 8 := by decide +kernel
  have hbs := znb8 hx
  have hb : ∀ b ∈ [zT x % 256, zT x / 2 ^ 8 % 256, zT x / 2 ^ 16 % 256, zT x / 2 ^ 24 % 256, zT x / 2 ^ 32 % 256, zT x / 2 ^ 40 % 256, zT x / 2 ^ 48 % 256, zT x / 2 ^ 56 % 256], b < 256 := by
    intro b hb
    simp only [List.mem_cons, List.not_mem_nil, or_false] at hb
    omega
  generalize hL : [zT x % 256, zT x / 2 ^ 8 % 256, zT x / 2 ^ 16 % 256, zT x / 2 ^ 24 % 256, zT x / 2 ^ 32 % 256, zT x / 2 ^ 40 % 256, zT x / 2 ^ 48 % 256, zT x / 2 ^ 56 % 256] = L at hbs hb
  have hlen : L.length = 8 := by rw [← hL]; rfl
  have q1 := zqA_l L hb
  have hb2 : ∀ b ∈ L.map (zqA 85), b < 256 := fun b hb' => by
    obtain ⟨y, hy, rfl⟩ := List.mem_map.mp hb'
    exact (zq_s1 y (hb y hy)).1
  have q2 := zqB_l (L.map (zqA 85)) hb2
  have hb3 : ∀ b ∈ (L.map (zqA 85)).map (zqB 51), b % 16 ≤ 4 ∧ b / 16 ≤ 4 := fun b hb' => by
    obtain ⟨y, hy, rfl⟩ := List.mem_map.mp hb'
    obtain ⟨z, hz, rfl⟩ := List.mem_map.mp hy
    exact ⟨(zq_s1 z (hb z hz)).2.1, (zq_s1 z (hb z hz)).2.2.1⟩
  have q3 := zqC_l ((L.map (zqA 85)).map (zqB 51)) hb3
  rw [List.length_map, List.length_map] at q3
  rw [List.length_map] at q2
  rw [hlen] at q1 q2 q3
  rw [List.map_map, List.map_map] at q3
  rw [List.map_map] at q2
  have q4 : L.map (zqC 15 ∘ (zqB 51 ∘ zqA 85)) = L.map (fun l => zfl (fun j => l.testBit j) 0 8) := List.map_congr_left (fun y hy => (zq_s1 y (hb y hy)).2.2.2)
  rw [q4] at q3
  have t1 : zT (xlushr x 1) = zT x / 2 := zT_shr x (k := 1) (by decide)
  have t2 : zT ((xlushr x 1) &&& 6148914691236517205) = (zT x / 2) &&& zrp 85 8 := by rw [zT_and, t1, m5]
  have hle : (zT x / 2) &&& zrp 85 8 ≤ zT x := Nat.le_trans Nat.and_le_left (Nat.div_le_self _ _)
  have t3 : zT (x - ((xlushr x 1) &&& 6148914691236517205)) = znb (L.map (zqA 85)) := by
    rw [zT_sub (by rw [t2]; exact hle), t2]
    rw [← q1, ← hbs]; rfl
  unfold f_J13_bitCount_95d88
  rw [z_sbind]
  generalize x - ((xlushr x 1) &&& 6148914691236517205) = w9 at t3
  rw [z_sbind]
  have hm3 : zrp 51 8 < 2 ^ 62 := by decide +kernel
  have t4 : zT (xlushr w9 2) = zT w9 / 4 := zT_shr w9 (k := 2) (by decide)
  have t5 : zT ((w9 &&& 3689348814741910323) + ((xlushr w9 2) &&& 3689348814741910323)) = znb (L.map (zqB 51 ∘ zqA 85)) := by
    have a1 : zT (w9 &&& 3689348814741910323) = zT w9 &&& zrp 51 8 := by rw [zT_and, m3]
    have a2 : zT ((xlushr w9 2) &&& 3689348814741910323) = (zT w9 / 4) &&& zrp 51 8 := by rw [zT_and, t4, m3]
    have b1 : zT w9 &&& zrp 51 8 ≤ zrp 51 8 := Nat.and_le_right
    have b2 : (zT w9 / 4) &&& zrp 51 8 ≤ zrp 51 8 := Nat.and_le_right
    rw [zT_add (by rw [a1, a2]; omega), a1, a2, t3]
    exact q2
  generalize (w9 &&& 3689348814741910323) + ((xlushr w9 2) &&& 3689348814741910323) = w23 at t5
  rw [z_sbind]
  have t6 : zT (xlushr w23 4) = zT w23 / 16 := zT_shr w23 (k := 4) (by decide)
  have hw23 : zT w23 ≤ 2 * zrp 51 8 := by
    rw [t5, ← q2]
    have b1 : znb (L.map (zqA 85)) &&& zrp 51 8 ≤ zrp 51 8 := Nat.and_le_right
    have b2 : (znb (L.map (zqA 85)) / 4) &&& zrp 51 8 ≤ zrp 51 8 := Nat.and_le_right
    unfold zqB
    omega
  have t7 : zT ((w23 + (xlushr w23 4)) &&& 1085102592571150095) = znb (L.map (fun l => zfl (fun j => l.testBit j) 0 8)) := by
    rw [zT_and, zT_add (by rw [t6]; omega), t6, mf, t5]
    exact q3
  generalize (w23 + (xlushr w23 4)) &&& 1085102592571150095 = w33 at t7
  rw [z_sbind]
  have hsum := zp_sum x
  rw [show 8 * 0 = 0 from rfl, show 8 * 1 = 8 from rfl, show 8 * 2 = 16 from rfl, show 8 * 3 = 24 from rfl, show 8 * 4 = 32 from rfl, show 8 * 5 = 40 from rfl, show 8 * 6 = 48 from rfl, show 8 * 7 = 56 from rfl, Nat.pow_zero, Nat.div_one] at hsum
  rw [← hL] at t7
  simp only [List.map_cons, List.map_nil] at t7
  obtain ⟨f1, f2, f3, f4⟩ := z_fold8 (zfl_8 _) (zfl_8 _) (zfl_8 _) (zfl_8 _) (zfl_8 _) (zfl_8 _) (zfl_8 _) (zfl_8 _) t7 rfl rfl
  have t8 : zT (xlushr w33 8) = zT w33 / 256 := zT_shr w33 (k := 8) (by decide)
  have t9 : zT (w33 + xlushr w33 8) = zT w33 + zT w33 / 256 := by
    rw [zT_add (by rw [t8]; omega), t8]
  generalize w33 + xlushr w33 8 = u at t9
  have t10 : zT (xlushr u 16) = zT u / 65536 := zT_shr u (k := 16) (by decide)
  have t11 : zT (u + xlushr u 16) = zT u + zT u / 65536 := by
    rw [zT_add (by rw [t10, t9]; omega), t10]
  generalize u + xlushr u 16 = v at t11
  have t12 : zT (xlushr v 32) = zT v / 4294967296 := zT_shr v (k := 32) (by decide)
  have t13 : zT (v + xlushr v 32) = zT v + zT v / 4294967296 := by
    rw [zT_add (by rw [t12, t11, t9]; omega), t12]
  rw [zT_low, t13, t11, t9, f4, hsum]
