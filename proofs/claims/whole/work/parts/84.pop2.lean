/-! how many bits of a long: the JDK's way -/
theorem z_fold_u {W1 W2 W3 c0 c1 c2 : Nat} (h0 : c0 ≤ 8) (h1 : c1 ≤ 8) (h2 : c2 ≤ 8) (e1 : W1 = 256 * W2 + c1) (e2 : W2 = 256 * W3 + c2) : 256 * W1 + c0 + W1 = 65536 * (W2 + W3) + (256 * c2 + 257 * c1 + c0) := by
  subst e1; omega
theorem z_fold8 {c0 c1 c2 c3 c4 c5 c6 c7 w u v : Nat} (h0 : c0 ≤ 8) (h1 : c1 ≤ 8) (h2 : c2 ≤ 8) (h3 : c3 ≤ 8) (h4 : c4 ≤ 8) (h5 : c5 ≤ 8) (h6 : c6 ≤ 8) (h7 : c7 ≤ 8) (hw : w = znb [c0, c1, c2, c3, c4, c5, c6, c7]) (hu : u = w + w / 256) (hv : v = u + u / 65536) : w < 2 ^ 60 ∧ u < 2 ^ 61 ∧ v < 2 ^ 62 ∧ (v + v / 4294967296) % 128 = c0 + (c1 + (c2 + (c3 + (c4 + (c5 + (c6 + c7)))))) := by
  have g7 : znb [c7] = c7 := by simp [znb]
  have g6 : znb [c6, c7] = 256 * znb [c7] + c6 := rfl
  have g5 : znb [c5, c6, c7] = 256 * znb [c6, c7] + c5 := rfl
  have g4 : znb [c4, c5, c6, c7] = 256 * znb [c5, c6, c7] + c4 := rfl
  have g3 : znb [c3, c4, c5, c6, c7] = 256 * znb [c4, c5, c6, c7] + c3 := rfl
  have g2 : znb [c2, c3, c4, c5, c6, c7] = 256 * znb [c3, c4, c5, c6, c7] + c2 := rfl
  have g1 : znb [c1, c2, c3, c4, c5, c6, c7] = 256 * znb [c2, c3, c4, c5, c6, c7] + c1 := rfl
  have g0 : w = 256 * znb [c1, c2, c3, c4, c5, c6, c7] + c0 := hw
  generalize znb [c1, c2, c3, c4, c5, c6, c7] = W1 at *
  generalize znb [c2, c3, c4, c5, c6, c7] = W2 at *
  generalize znb [c3, c4, c5, c6, c7] = W3 at *
  generalize znb [c4, c5, c6, c7] = W4 at *
  generalize znb [c5, c6, c7] = W5 at *
  generalize znb [c6, c7] = W6 at *
  generalize znb [c7] = W7 at *
  clear hw
  have b6 : W6 ≤ 2100 := by omega
  have b5 : W5 ≤ 540000 := by omega
  have b4 : W4 ≤ 140000000 := by omega
  have b3 : W3 ≤ 36000000000 := by omega
  have b2 : W2 ≤ 9300000000000 := by omega
  have b1 : W1 ≤ 2400000000000000 := by omega
  have bw : w ≤ 620000000000000000 := by omega
  have d1 : w / 256 = W1 := by omega
  have f0 := z_fold_u h0 h1 h2 g1 g2
  have f2 := z_fold_u h2 h3 h4 g3 g4
  have f4 := z_fold_u h4 h5 h6 g5 g6
  rw [← g2] at f2
  rw [← g4] at f4
  have u1 : u = 65536 * (W2 + W3) + (256 * c2 + 257 * c1 + c0) := by rw [hu, d1, g0]; exact f0
  have d2 : u / 65536 = W2 + W3 := by
    rw [u1, Nat.add_comm, Nat.add_mul_div_left _ _ (by decide), Nat.div_eq_of_lt (by omega)]; omega
  have v1 : v = 65537 * (W2 + W3) + (256 * c2 + 257 * c1 + c0) := by rw [hv, d2, u1]; clear f0 f2 f4 g0 g1 g2 g3 g4 g5 g6 g7 d1 d2 u1 hu hv; omega
  have v2 : v = 65537 * (65536 * (W4 + W5) + (256 * c4 + 257 * c3 + c2)) + (256 * c2 + 257 * c1 + c0) := by rw [v1, f2]
  have v3 : v = 4294967296 * (W4 + W5 + (W6 + W7)) + (65536 * (256 * c6 + 257 * c5 + c4) + 65537 * (256 * c4 + 257 * c3 + c2) + (256 * c2 + 257 * c1 + c0)) := by
    have e : 65536 * (W4 + W5) = 65536 * (65536 * (W6 + W7) + (256 * c6 + 257 * c5 + c4)) := by rw [f4]
    clear f0 f2 f4 g0 g1 g2 g3 g4 g5 g6 g7 d1 d2 u1 hu hv v1
    omega
  have d3 : v / 4294967296 = W4 + W5 + (W6 + W7) := by
    rw [v3, Nat.add_comm, Nat.add_mul_div_left _ _ (by decide), Nat.div_eq_of_lt (by clear f0 f2 f4 g0 g1 g2 g3 g4 g5 g6 g7 d1 d2 u1 hu hv v1 v2 v3; omega)]; omega
  have bu : u ≤ 700000000000000000 := by rw [hu, d1]; omega
  have bv : v ≤ 800000000000000000 := by rw [hv, d2]; omega
  refine ⟨by omega, by omega, by omega, ?_⟩
  rw [d3, v2, f4, g6, g7]
  clear f0 f2 f4 g0 g1 g2 g3 g4 g5 g6 g7 d1 d2 d3 u1 hu hv v1 v2 v3 b1 b2 b3 b4 b5 b6 bw bu bv
  omega
