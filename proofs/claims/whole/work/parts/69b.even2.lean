/-! even -/
theorem p_even {N : Nat} (hN : 5000 ≤ N) : xP_even N zInv := by
  intro y1 y2 y3 a b hI
  obtain ⟨n, kd, t, d, hb, ha, hB, ⟨ls, hls⟩, hlo, htx, hf, hca⟩ := id hI
  unfold f_X7_even f_X8_even f_X7_isPlace
  rcases z_isL y1 with ⟨e1, e2⟩ | ⟨k1, hk1, rfl, e1, e2⟩
  · rw [e1, e2]; exact ⟨_, _, _, rfl, rfl, hI⟩
  rw [e1, e2]
  simp only [Option.bind_some, if_neg z10]
  rcases z_isL y2 with ⟨e3, e4⟩ | ⟨k2, hk2, rfl, e3, e4⟩
  · rw [e3, e4]; exact ⟨_, _, _, rfl, rfl, hI⟩
  rw [e3, e4]
  simp only [Option.bind_some, if_neg z10]
  have hn := hb.2.1
  have w8 := f8_in y3 0 (nI n - 1)
  rw [show (0 : Int32).toInt64 = 0 from rfl] at w8
  rw [ha.1, hB.1, f7_within, w8]
  simp only [Option.bind_some]
  have hg : ((1 : Int32) &&& 1 = 1) := by decide
  rcases z_idx y3 (len := n) (by omega) with c | ⟨c, p, hpn, rfl⟩
  · rw [if_pos c]; exact ⟨_, _, _, rfl, rfl, hI⟩
  rw [if_neg c]
  simp only [if_pos hg, Option.bind_some, if_neg z10]
  obtain ⟨h1, h2, h3⟩ := hls k2 hk2
  have hl := h1.1
  have hp12 : p < 12 := by omega
  obtain ⟨a1, w0, w1, w2, w3, w4⟩ := f3_wipe (k := 6) a (show 70 ≤ N by omega)
  rw [w0]
  simp only [Option.bind_some]
  have ha1 : zis a1 n kd t d := zis_keep ha (fun j hj => by rw [w1, if_neg (by omega)])
  have h21 : zlA a1 k2 (ls k2) := zlA_keep h2 (by rw [w1, if_neg (by omega)]) (fun i => w2 _ _) (fun i => w3 _ _ (by omega))
  have h61 : zlA a1 6 (zmp (zev p) ((ls k2).take 0)) := zlA_nil (by rw [w1, if_pos rfl]) w4
  obtain ⟨a2, u0, u1, u2, u3, u4⟩ := f7_ev_loop (nI k1) hb h1 hk2 hpn (ls k2).length 0 a1 N ha1 h21 h61 (by omega) (by omega)
  have hrow : zrow (sI b 11 0) (zmp (zev p) ((ls k2).take 0)) := ⟨rfl, fun i hi => absurd hi (Nat.not_lt_zero i)⟩
  obtain ⟨b2, v0, v1, v2, v3⟩ := f8_ev_loop (nI k1) hb h1 hk2 hpn hN (ls k2).length 0 (sI b 11 0) N (zis_keep hB (fun j hj => by rw [gI_sI, if_neg (by omega)])) (zlB_keep h3 rfl (fun _ => rfl)) hrow (by omega) (by omega)
  rw [show nI 0 = (0 : Int32) from rfl] at u0 v0
  have hz := zmp_w (g := zev p) (n := n) hl (fun x hx => zev_lt hpn (h1.2.2 x hx)) (ls k2).length (Nat.le_refl _)
  rw [List.take_length] at hz
  obtain ⟨a3, r0, r1, r2, r3, r4⟩ := f7_becomes u1 (by omega) hk1
  obtain ⟨b3, s0, s1, s2, s3, s4, s5⟩ := f8_keep v1 hk1 (by omega) hN
  rw [u0, v0]
  simp only [Option.bind_some]
  rw [r0, s0]
  simp only [Option.bind_some]
  refine ⟨_, _, _, rfl, rfl, zInv_list hb ha hB hls hlo htx hf hca hk1 ⟨by omega, hz.2⟩ r1 s1 ?_ ?_ ?_ ?_ ?_ ?_ ?_⟩
  · intro j h5 h6; rw [r2 j h6, u2 j h5, w1, if_neg (by omega)]
  · intro c j h5 h6; rw [r3 c j h6, u3 c j h5, w2]
  · intro c j h5 h6; rw [r4 c j h6, u4 c j h5, w3 c j (by omega)]
  · intro j h5; rw [s2, v2 j h5, gI_sI, if_neg h5]
  · intro c j h5 h6 h7; rw [s3 c j h6 h7, v3 c j h5]; rfl
  · intro j h5; rw [s4 j h5, v3 45 j (by decide)]; rfl
  · intro j h5; rw [s5 j h5, v3 46 j (by decide)]; rfl
