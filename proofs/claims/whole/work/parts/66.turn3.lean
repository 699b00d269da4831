/-! a list is replaced by another -/
theorem zInv_list {a a2 b b2 : xT} {n kd t d k : Nat} {ls : Nat → List Nat} {l : List Nat} (hb : zbd n kd t d) (ha : zis a n kd t d) (hB : zis b n kd t d) (hls : ∀ j, j < 6 → zlw n (ls j) ∧ zlA a j (ls j) ∧ zlB b j (ls j)) (hlo : zlo a b n) (htx : ztx a b) (hf : gI a 11 = gI b 15) (hca : zca a n kd t d) (hk : k < 6) (hw : zlw n l) (hA : zlA a2 k l) (hB2 : zlB b2 k l)
    (g1 : ∀ j, j ≠ 29 → j ≠ 23 + k → gI a2 j = gI a j) (g2 : ∀ c j, c ≠ 36 → c ≠ 30 + k → gA a2 c j = gA a c j) (g3 : ∀ c j, c ≠ 43 → c ≠ 37 + k → gB a2 c j = gB a c j) (q1 : ∀ j, j ≠ 11 → gI b2 j = gI b j) (q2 : ∀ c j, c ≠ 51 → c ≠ 45 → c ≠ 46 → gA b2 c j = gA b c j) (q3 : ∀ j, j ≠ k → gA b2 45 j = gA b 45 j) (q4 : ∀ j, (j < 64 * k ∨ 64 * k + 64 ≤ j) → gA b2 46 j = gA b 46 j) : zInv a2 b2 := by
  refine ⟨n, kd, t, d, hb, zis_keep ha (fun j hj => g1 j (by omega) (by omega)), zis_keep hB (fun j hj => q1 j (by omega)), ?_, ?_, ?_, ?_, ?_⟩
  · refine zls_set (k := k) (ls := ls) ⟨hw, hA, hB2⟩ (fun j hj hjk => ?_)
    obtain ⟨w1, w2, w3⟩ := hls j hj
    refine ⟨w1, zlA_keep w2 (g1 _ (by omega) (by omega)) (fun i => g2 _ _ (by omega) (by omega)) (fun i => g3 _ _ (by omega) (by omega)), q3 j hjk ▸ w3.1, fun i hi => ?_⟩
    have := w1.1
    rw [q4 _ (by omega)]
    exact w3.2 i hi
  · exact zlo_keep hlo (fun i => g2 _ _ (by decide) (by omega)) (fun i => q2 _ _ (by decide) (by decide) (by decide))
  · exact ztx_keep htx (g1 _ (by decide) (by omega)) (q1 _ (by decide)) (fun i => g2 _ _ (by decide) (by omega)) (fun i => q2 _ _ (by decide) (by decide) (by decide))
  · rw [g1 11 (by decide) (by omega), q1 15 (by decide)]; exact hf
  · exact zca_keep hca (g1 _ (by decide) (by omega)) (g1 _ (by decide) (by omega)) (g1 _ (by decide) (by omega)) (fun i => g2 _ _ (by decide) (by omega))
theorem p_turn {N : Nat} (hN : 5000 ≤ N) : xP_turn N zInv := by
  intro y1 y2 a b hI
  obtain ⟨n, kd, t, d, hb, ha, hB, ⟨ls, hls⟩, hlo, htx, hf, hca⟩ := id hI
  unfold f_X7_turn f_X8_turn
  rcases z_isL y1 with ⟨e1, e2⟩ | ⟨k1, hk1, rfl, e1, e2⟩
  · rw [e1, e2]; exact ⟨_, _, _, rfl, rfl, hI⟩
  rw [e1, e2]
  simp only [Option.bind_some, if_neg z10]
  rcases z_isL y2 with ⟨e3, e4⟩ | ⟨k2, hk2, rfl, e3, e4⟩
  · rw [e3, e4]; exact ⟨_, _, _, rfl, rfl, hI⟩
  rw [e3, e4]
  simp only [Option.bind_some, if_neg z10]
  obtain ⟨h1, h2, h3⟩ := hls k2 hk2
  have hl := h1.1
  obtain ⟨a1, w0, w1, w2, w3, w4⟩ := f3_wipe (k := 6) a (show 70 ≤ N by omega)
  rw [w0]
  simp only [Option.bind_some]
  have ha1 : zis a1 n kd t d := zis_keep ha (fun j hj => by rw [w1, if_neg (by omega)])
  have h21 : zlA a1 k2 (ls k2) := zlA_keep h2 (by rw [w1, if_neg (by omega)]) (fun i => w2 _ _) (fun i => w3 _ _ (by omega))
  have h61 : zlA a1 6 (zmp (zrev n) ((ls k2).take 0)) := zlA_nil (by rw [w1, if_pos rfl]) w4
  obtain ⟨a2, u0, u1, u2, u3, u4⟩ := f7_turn_loop (nI k1) hb h1 hk2 hN (ls k2).length 0 a1 N ha1 h21 h61 (by omega) (by omega)
  have hrow : zrow (sI b 11 0) (zmp (zrev n) ((ls k2).take 0)) := ⟨rfl, fun i hi => absurd hi (Nat.not_lt_zero i)⟩
  obtain ⟨b2, v0, v1, v2, v3⟩ := f8_turn_loop (nI k1) hb h1 hk2 hN (ls k2).length 0 (sI b 11 0) N (zis_keep hB (fun j hj => by rw [gI_sI, if_neg (by omega)])) (zlB_keep h3 rfl (fun _ => rfl)) hrow (by omega) (by omega)
  rw [show nI 0 = (0 : Int32) from rfl] at u0 v0
  have hz := zmp_w (g := zrev n) hl (fun x _ => zrev_lt n x) (ls k2).length (Nat.le_refl _)
  rw [List.take_length] at hz
  obtain ⟨a3, r0, r1, r2, r3, r4⟩ := f7_becomes u1 (by omega) hk1
  obtain ⟨b3, s0, s1, s2, s3, s4, s5⟩ := f8_keep v1 hk1 (by omega) hN
  rw [u0, v0]
  simp only [Option.bind_some]
  rw [r0, s0]
  simp only [Option.bind_some]
  refine ⟨_, _, _, rfl, rfl, zInv_list hb ha hB hls hlo htx hf hca hk1 ⟨by omega, hz.2⟩ r1 s1 ?_ ?_ ?_ ?_ ?_ ?_ ?_⟩
  · intro j h5 h6; rw [r2 j h6, u2 j h5, w1, if_neg (by omega)]
  · intro c j h5 h6; rw [r3 c j h6, u3 c j h5, w2]
  · intro c j h5 h6; rw [r4 c j h6, u4 c j h5, w3 c j (by omega)]
  · intro j h5; rw [s2, v2 j h5, gI_sI, if_neg h5]
  · intro c j h5 h6 h7; rw [s3 c j h6 h7, v3 c j h5]; rfl
  · intro j h5; rw [s4 j h5, v3 45 j (by decide)]; rfl
  · intro j h5; rw [s5 j h5, v3 46 j (by decide)]; rfl
