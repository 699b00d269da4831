/-! chance -/
theorem z_ch_tail {a b : xT} {n : Nat} (h : zlo a b n) (v1 : Int32) : ∀ r i fuel (v : Int64), i + r = 12 → n ≤ i → r < fuel → f_X4_chanceOf_L5 v1 a fuel v (nI i) = some v := by
  intro r
  induction r with
  | zero =>
    intro i fuel v hi hn hf
    obtain ⟨fu, rfl⟩ : ∃ fu, fuel = fu + 1 := ⟨fuel - 1, by omega⟩
    rw [f_X4_chanceOf_L5, if_pos (show (12 : Int32) ≤ nI i from nI_le (a := 12) (by omega) (by omega))]
  | succ r ih =>
    intro i fuel v hi hn hf
    obtain ⟨fu, rfl⟩ : ∃ fu, fuel = fu + 1 := ⟨fuel - 1, by omega⟩
    have e : gA a 4 i = -1 := by
      rcases (h i (by omega)).2 with e | ⟨z, -⟩
      · exact e
      · omega
    have hx := z_xin (k := i) (n := 12) (by omega) (by decide)
    rw [f_X4_chanceOf_L5, if_neg (show ¬ (12 : Int32) ≤ nI i from nI_ge (b := 12) (by omega) (by decide))]
    simp only [if_pos hx, Option.bind_some]
    rw [nI_clamp (by omega), if_pos e, nI_1]
    exact ih (i + 1) fu v (by omega) (by omega) (by omega)
theorem z_ch {a b : xT} {n m : Nat} (hB : gI b 0 = nI n) (hn : n ≤ 12) (h : zlo a b n) (hm : m < 4096) : ∀ r i f1 f2 (v : Int64), i + r = n → r + 13 ≤ f1 → r < f2 → ∃ z, f_X4_chanceOf_L5 (nI m) a f1 v (nI i) = some z ∧ f_X8_chanceOf_L5 (nI m) b f2 v (nI i) = some z := by
  intro r
  induction r with
  | zero =>
    intro i f1 f2 v hi hf1 hf2
    obtain ⟨fu, rfl⟩ : ∃ fu, f2 = fu + 1 := ⟨f2 - 1, by omega⟩
    refine ⟨v, z_ch_tail h _ (12 - i) i f1 v (by omega) (by omega) (by omega), ?_⟩
    rw [f_X8_chanceOf_L5, hB, if_pos (nI_le (by omega) (by omega))]
  | succ r ih =>
    intro i f1 f2 v hi hf1 hf2
    obtain ⟨fu, rfl⟩ : ∃ fu, f1 = fu + 1 := ⟨f1 - 1, by omega⟩
    obtain ⟨gu, rfl⟩ : ∃ gu, f2 = gu + 1 := ⟨f2 - 1, by omega⟩
    have hx := z_xin (k := i) (n := 12) (by omega) (by decide)
    obtain ⟨e0, e1⟩ := h i (by omega)
    have e2 : (nI m >>> (nI i &&& 31)) &&& 1 = nI ((m >>> i) % 2) := by rw [zI_shr (by omega) (by omega), zI_and1]
    rw [f_X4_chanceOf_L5, f_X8_chanceOf_L5, hB, if_neg (show ¬ (12 : Int32) ≤ nI i from nI_ge (b := 12) (by omega) (by decide)), if_neg (nI_ge (by omega) (by omega))]
    simp only [if_pos hx, Option.bind_some]
    rw [nI_clamp (by omega), ← e0, e2, nI_1]
    rcases e1 with e | ⟨-, x, hx9, e⟩
    · rw [e, if_pos rfl, if_neg (by decide), show (v * 1) = v from Int64.mul_one v]
      exact ih (i + 1) fu gu v (by omega) (by omega) (by omega)
    · rw [e, if_neg (nI_nneg (by omega)), if_pos (nI_pos' (by omega))]
      rcases (show (m >>> i) % 2 = 0 ∨ (m >>> i) % 2 = 1 by omega) with e3 | e3
      · rw [e3, if_pos (show nI 0 = (0 : Int32) from rfl), if_neg (by decide)]
        exact ih (i + 1) fu gu _ (by omega) (by omega) (by omega)
      · rw [e3, if_neg (by decide), if_pos (show nI 1 = (1 : Int32) from rfl)]
        exact ih (i + 1) fu gu _ (by omega) (by omega) (by omega)
theorem z_chance {a b : xT} {n m N : Nat} (hB : gI b 0 = nI n) (hn : n ≤ 12) (h : zlo a b n) (hm : m < 4096) (hN : 70 ≤ N) : ∃ z, f_X4_chanceOf N (nI m) a = some z ∧ f_X8_chanceOf N (nI m) b = some z := by
  obtain ⟨z, e1, e2⟩ := z_ch hB hn h hm n 0 N N 1 (by omega) (by omega) (by omega)
  rw [show nI 0 = (0 : Int32) from rfl] at e1 e2
  unfold f_X4_chanceOf f_X8_chanceOf
  rw [e1, e2]
  exact ⟨z, rfl, rfl⟩
theorem p_chance {N : Nat} (hN : 70 ≤ N) : xP_chance N zInv := by
  intro y1 y2 a b hI
  obtain ⟨n, kd, t, d, hb, ha, hB, ⟨ls, hls⟩, hlo, -⟩ := id hI
  have hn := hb.2.1
  have hp := z_pow n (by omega)
  unfold f_X7_chance f_X8_chance
  rcases z_isM hls y1 y2 with ⟨e3, e4⟩ | ⟨k, i, hk, hi, rfl, rfl, e3, e4⟩
  · rw [e3, e4]; exact ⟨_, rfl, rfl, hI⟩
  · obtain ⟨h1, h2, h3⟩ := hls k hk
    have hl := h1.1
    have hx6 := z_xin (n := 6) hk (by decide)
    have hx64 := z_xin (k := i) (n := 64) (by omega) (by decide)
    rw [e3, e4]
    simp only [Option.bind_some, if_neg z10, if_pos hx6, if_pos hx64]
    rw [nI_clamp (by omega), nI_clamp (by omega), h2.2.1 i hi, f8_at h3 hk hi hl]
    simp only [Option.bind_some]
    have hm : (ls k).getD i 0 < 4096 := by
      have := h1.2.2 ((ls k).getD i 0) (by simp [hi])
      omega
    obtain ⟨z, z1, z2⟩ := z_chance hB.1 hn hlo hm hN
    rw [z1, z2]
    exact ⟨_, rfl, rfl, hI⟩
