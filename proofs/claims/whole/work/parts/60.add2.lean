/-! add -/
theorem zls_push {a a2 b b2 : xT} {n k m : Nat} {ls : Nat → List Nat} (h : ∀ j, j < 6 → zlw n (ls j) ∧ zlA a j (ls j) ∧ zlB b j (ls j)) (hk : k < 6) (hl : (ls k).length < 64) (h2 : m ∉ ls k) (h3 : m < 2 ^ n) (hA : zlA a2 k (ls k ++ [m])) (hB : zlB b2 k (ls k ++ [m])) (g1 : ∀ j, j ≠ 23 + k → gI a2 j = gI a j) (g2 : ∀ c j, c ≠ 30 + k → gA a2 c j = gA a c j) (g3 : ∀ c j, c ≠ 37 + k → gB a2 c j = gB a c j) (q3 : ∀ j, j ≠ k → gA b2 45 j = gA b 45 j) (q4 : ∀ j, j ≠ 64 * k + (ls k).length → gA b2 46 j = gA b 46 j) : zls a2 b2 n := by
  refine zls_set (k := k) (ls := ls) ⟨zlw_add (h k hk).1 hl h2 h3, hA, hB⟩ (fun j hj hjk => ?_)
  obtain ⟨w1, w2, w3⟩ := h j hj
  refine ⟨w1, zlA_keep w2 (g1 _ (by omega)) (fun i => g2 _ _ (by omega)) (fun i => g3 _ _ (by omega)), q3 j hjk ▸ w3.1, fun i hi => ?_⟩
  have := w1.1
  rw [q4 _ (by omega)]
  exact w3.2 i hi
theorem p_add {N : Nat} (hN : 70 ≤ N) : xP_add N zInv := by
  intro y1 y2 a b hI
  obtain ⟨n, kd, t, d, hb, ha, hB, ⟨ls, hls⟩, hlo, htx, hf, hca⟩ := id hI
  have hn := hb.2.1
  have hp := z_pow n (by omega)
  unfold f_X7_add f_X8_add
  rcases z_isL y1 with ⟨e1, e2⟩ | ⟨k, hk, rfl, e1, e2⟩
  · rw [e1, e2]; exact ⟨_, _, _, rfl, rfl, hI⟩
  rw [e1, e2]
  obtain ⟨h1, h2, h3⟩ := hls k hk
  have hx6 := z_xin (n := 6) hk (by decide)
  simp only [Option.bind_some, if_neg z10, if_pos hx6]
  rw [f1_isSet y2 ha.1 hn, f8_isMark y2 hB.1 hn]
  simp only [Option.bind_some]
  by_cases c : y2 < 0 ∨ nI (2 ^ n - 1) < y2
  · rw [if_pos c]; exact ⟨_, _, _, rfl, rfl, hI⟩
  rw [if_neg c]
  obtain ⟨m, hm, rfl⟩ := z_setOf hn c
  simp only [if_neg z10]
  rw [nI_clamp (by omega), f3_holds h2 (by omega), f8_has h3 hk h1.1 (fun x hx => by have := h1.2.2 x hx; omega) (by omega) hN]
  simp only [Option.bind_some]
  by_cases cm : m ∈ ls k
  · have hd : bI (decide (m ∈ ls k)) = 1 := by simp [cm, bI]
    rw [hd]
    simp only [if_neg z10]
    exact ⟨_, _, _, rfl, rfl, hI⟩
  have hd : bI (decide (m ∈ ls k)) = 0 := by simp [cm, bI]
  rw [hd]
  simp only [if_pos rfl]
  rw [h3.1]
  have hl := h1.1
  by_cases cl : (ls k).length = 64
  · rw [f3_full (nI m) h2 cl, cl]
    exact ⟨_, _, _, rfl, rfl, hI⟩
  · rw [if_neg (show ¬ nI (ls k).length = 64 from fun z => cl ((nI_eq (b := 64) (by omega) (by decide)).mp z))]
    obtain ⟨a2, e3, g0, g1, g2, g3⟩ := f3_append h2 (by omega) (show m < 4096 by omega) (by omega)
    obtain ⟨b2, e4, q0, q1, q2, q3, q4⟩ := f8_put (m := m) h3 hk (by omega)
    rw [e3, e4]
    simp only [Option.bind_some, if_neg z10, if_pos hx6]
    rw [g0.1, q0.1]
    refine ⟨_, _, _, rfl, rfl, n, kd, t, d, hb, zis_keep ha (fun j hj => g1 j (by omega)), zis_keep hB (fun j _ => q1 j), ?_, ?_, ?_, ?_, ?_⟩
    · exact zls_push hls hk (by omega) cm hm g0 q0 g1 g2 g3 q3 q4
    · exact zlo_keep hlo (fun i => g2 _ _ (by omega)) (fun i => q2 _ _ (by decide) (by decide))
    · exact ztx_keep htx (g1 _ (by omega)) (q1 _) (fun i => g2 _ _ (by omega)) (fun i => q2 _ _ (by decide) (by decide))
    · rw [g1 11 (by omega), q1]; exact hf
    · exact zca_keep hca (g1 _ (by omega)) (g1 _ (by omega)) (g1 _ (by omega)) (fun i => g2 _ _ (by omega))
