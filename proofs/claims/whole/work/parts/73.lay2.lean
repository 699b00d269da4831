/-! lay -/
theorem z_idx1 (v : Int32) {len : Nat} (hl : len ≤ 4096) : (v < 1 ∨ nI len - 1 < v) ∨ (¬ (v < 1 ∨ nI len - 1 < v) ∧ ∃ i, 0 < i ∧ i < len ∧ v = nI i) := by
  by_cases c : v < 1 ∨ nI len - 1 < v
  · exact Or.inl c
  · right
    refine ⟨c, ?_⟩
    have h1 : (nI len - nI 1).toInt = (len : Int) - 1 := pk_sub_toInt (by omega) (by decide)
    have h2 : ¬ (nI len - nI 1).toInt < v.toInt := fun z => c (Or.inr (Int32.lt_iff_toInt_lt.mpr z))
    have h3 : ¬ v.toInt < 1 := fun z => c (Or.inl (Int32.lt_iff_toInt_lt.mpr (by simpa using z)))
    rw [h1] at h2
    refine ⟨v.toInt.toNat, by omega, by omega, ?_⟩
    apply Int32.toInt_inj.mp
    rw [nI_toInt (by omega)]
    omega
theorem p_lay {N : Nat} (hN : 5000 ≤ N) : xP_lay N zInv := by
  intro y1 y2 y3 y4 a b hI
  obtain ⟨n, kd, t, d, hb, ha, hB, ⟨ls, hls⟩, hlo, htx, hf, hca⟩ := id hI
  unfold f_X7_lay f_X8_lay
  rcases z_isL y1 with ⟨e1, e2⟩ | ⟨k1, hk1, rfl, e1, e2⟩
  · rw [e1, e2]; exact ⟨_, _, _, rfl, rfl, hI⟩
  rw [e1, e2]
  simp only [Option.bind_some, if_neg z10]
  rcases z_isL y2 with ⟨e3, e4⟩ | ⟨k2, hk2, rfl, e3, e4⟩
  · rw [e3, e4]; exact ⟨_, _, _, rfl, rfl, hI⟩
  rw [e3, e4]
  simp only [Option.bind_some, if_neg z10]
  rcases z_isL y3 with ⟨e5, e6⟩ | ⟨k3, hk3, rfl, e5, e6⟩
  · rw [e5, e6]; exact ⟨_, _, _, rfl, rfl, hI⟩
  rw [e5, e6]
  simp only [Option.bind_some, if_neg z10]
  have hn := hb.2.1
  have w8 := f8_in y4 1 (nI n - 1)
  rw [show (1 : Int32).toInt64 = 1 from rfl] at w8
  rw [ha.1, hB.1, f7_within, w8]
  simp only [Option.bind_some]
  rcases z_idx1 y4 (len := n) (by omega) with c | ⟨c, p, hp0, hpn, rfl⟩
  · rw [if_pos c]; exact ⟨_, _, _, rfl, rfl, hI⟩
  rw [if_neg c]
  simp only [if_neg z10]
  obtain ⟨w2, hA2, hB2⟩ := hls k2 hk2
  obtain ⟨w3, hA3, hB3⟩ := hls k3 hk3
  have l2 := w2.1
  have l3 := w3.1
  obtain ⟨a1, q0, q1, q2, q3, q4⟩ := f3_wipe (k := 6) a (show 70 ≤ N by omega)
  have f1 : zf6 a a1 := ⟨fun j hj => by rw [q1, if_neg hj], fun c j _ => q2 c j, fun c j hc => q3 c j hc⟩
  have h61 : zlA a1 6 [] := zlA_nil (by rw [q1, if_pos rfl]) q4
  obtain ⟨a2, u0, u1, u2⟩ := f7_lay_out (nI k1) hb w2 w3 hk2 hk3 hpn hN (ls k2).length 0 [] a1 N (zf6_is f1 ha) (zf6_A hk2 f1 hA2) (zf6_A hk3 f1 hA3) h61 (by decide) (by omega) (by omega)
  obtain ⟨b2, s0, s1, s2⟩ := f8_lay_out (nI k1) hb w2 w3 hk2 hk3 hpn hN (ls k2).length 0 [] (sI b 11 0) N (zfr_is (zfr_11 b 0) hB) (zfr_B (zfr_11 b 0) hB2) (zfr_B (zfr_11 b 0) hB3) (zrow_0 b) (by rw [List.length_nil]; omega) (fun x hx => absurd hx List.not_mem_nil) (by omega) (by omega)
  rw [List.drop_zero] at u0 u1 s1
  rw [show nI 0 = (0 : Int32) from rfl] at u0 s0
  rw [q0]
  simp only [Option.bind_some]
  rw [u0, s0]
  simp only [Option.bind_some]
  have f3 := zf6_tr f1 u2
  have f4 := zfr_tr (zfr_11 b 0) s2
  have hle := zlo2_le (n := n) (p := p) (lb := ls k3) (ls k2) []
  have hmul : (ls k3).length * (ls k2).length ≤ 64 * 64 := Nat.mul_le_mul l3 l2
  rw [List.length_nil] at hle
  by_cases c2 : (zlo2 n p (ls k3) [] (ls k2)).length ≤ 64
  · rw [if_pos c2]
    have hw : zlw n (zlo2 n p (ls k3) [] (ls k2)) := ⟨c2, zlo2_nd _ _ List.nodup_nil, zlo2_lt hpn _ _ w2.2.2 (fun x hx => absurd hx List.not_mem_nil)⟩
    obtain ⟨r, a3, b3, g1, g2, g3⟩ := z_fin hb ha hB hls hlo htx hf hca hk1 hw (u1 c2) f3 s1 f4 hN
    simp only [Sum.elim_inl]
    rw [g1, g2]
    exact ⟨_, _, _, rfl, rfl, g3⟩
  · rw [if_neg c2, f8_keepFull (nI k1) s1 (by omega) (by omega)]
    exact ⟨_, _, _, rfl, rfl, zInv_fr hI f3 f4⟩
