/-! trace, inAll -/
theorem z_amt1 : ∀ k, k < 64 → (((nI k).toInt64 &&& 63).toBitVec.smod 64).toNat = k := by decide +kernel
theorem z_sar {x : Int64} {i : Nat} (hi : i < 64) : (x >>> ((nI i).toInt64 &&& 63)) &&& 1 = if zbit x i then 1 else 0 := by
  apply Int64.toBitVec_inj.mp
  rw [Int64.toBitVec_and, Int64.toBitVec_shiftRight, BitVec.sshiftRight', z_amt1 i hi]
  apply BitVec.eq_of_getLsbD_eq
  intro j hj
  rw [BitVec.getLsbD_and, BitVec.getLsbD_sshiftRight]
  have h1 : (1 : Int64).toBitVec.getLsbD j = decide (j = 0) := by
    show (1#64).getLsbD j = _
    cases j with
    | zero => rfl
    | succ j => simp
  rw [h1]
  by_cases c : j = 0
  · subst c
    rw [Nat.add_zero, if_pos hi]
    unfold zbit
    by_cases q : x.toBitVec.getLsbD i = true
    · rw [q]; rfl
    · have q : x.toBitVec.getLsbD i = false := by simpa using q
      rw [q]; rfl
  · rw [decide_eq_false c, Bool.and_false]
    by_cases q : zbit x i = true
    · rw [if_pos q]; exact (h1.trans (decide_eq_false c)).symm
    · rw [if_neg q]; simp
theorem z_sar32 {x : Int64} {i : Nat} (hi : i < 64) : Int64.toInt32 ((x >>> ((nI i).toInt64 &&& 63)) &&& 1) = nI (if zbit x i then 1 else 0) := by
  rw [z_sar hi]
  cases zbit x i <;> rfl
theorem f8_sum_loop {b : xT} (v4 : Int32) : ∀ r i acc fuel, i + r = 64 → r < fuel → f_X8_trace_L51 v4 b fuel (nI acc) (nI i) = some (nI (acc + zfl (fun j => zbit (gJ b 34) j) i r)) := by
  intro r
  induction r with
  | zero =>
    intro i acc fuel hi hf
    obtain ⟨fu, rfl⟩ : ∃ fu, fuel = fu + 1 := ⟨fuel - 1, by omega⟩
    rw [f_X8_trace_L51, if_pos (show (64 : Int32) ≤ nI i from nI_le (a := 64) (by omega) (by omega)), zfl_0, Nat.add_zero]
  | succ r ih =>
    intro i acc fuel hi hf
    obtain ⟨fu, rfl⟩ : ∃ fu, fuel = fu + 1 := ⟨fuel - 1, by omega⟩
    rw [f_X8_trace_L51, if_neg (show ¬ (64 : Int32) ≤ nI i from nI_ge (b := 64) (by omega) (by decide)), z_sbind, z_sar32 (by omega), nI_add, nI_1, ih (i + 1) _ fu (by omega) (by omega), zfl_s, Nat.add_assoc]
theorem z_asked {b : xT} {n : Nat} (v w u : Int32) (hB : gI b 0 = nI n) (hn : n ≤ 12) : f_X8_isAsked u v w b = some (if (v < 0 ∨ nI (2 ^ n - 1) < v) ∨ (w < 1 ∨ 3 < w) then 0 else 1) := by
  have w3 := f8_in w 1 3
  rw [show (1 : Int32).toInt64 = 1 from rfl, show (3 : Int32).toInt64 = 3 from rfl] at w3
  unfold f_X8_isAsked
  rw [f8_isMark v hB hn, w3, z_sbind]
  by_cases c1 : v < 0 ∨ nI (2 ^ n - 1) < v
  · rw [if_pos c1, if_pos (Or.inl c1)]; rfl
  · rw [if_neg c1, if_neg z10, z_sbind]
    by_cases c2 : w < 1 ∨ 3 < w
    · rw [if_pos c2, if_pos (Or.inr c2)]; rfl
    · have cc : ¬ ((v < 0 ∨ nI (2 ^ n - 1) < v) ∨ (w < 1 ∨ 3 < w)) := fun z => z.elim c1 c2
      rw [if_neg c2, if_neg cc]; rfl
theorem p_trace {N : Nat} (hN : 1000000 ≤ N) : xP_trace N zInv := by
  intro y1 y2 y3 y4 a b hI
  obtain ⟨n, kd, t, d, hb, ha, hB, ⟨ls, hls⟩, hlo, htx, hf, hca⟩ := id hI
  have hn := hb.2.1
  unfold f_X7_trace f_X8_trace
  rcases z_isL y1 with ⟨e1, e2⟩ | ⟨k, hk, rfl, e1, e2⟩
  · rw [e1, e2]; exact ⟨_, _, _, rfl, rfl, hI⟩
  rw [e1, e2]
  simp only [z_sbind, if_neg z10]
  rw [f1_isSet y2 ha.1 hn, z_asked y2 y3 (nI k) hB.1 hn, f7_within]
  simp only [z_sbind]
  by_cases c2 : y2 < 0 ∨ nI (2 ^ n - 1) < y2
  · rw [if_pos c2, if_pos (Or.inl c2)]; exact ⟨_, _, _, rfl, rfl, hI⟩
  rw [if_neg c2]
  simp only [if_neg z10]
  by_cases c3 : y3 < 1 ∨ 3 < y3
  · rw [if_pos c3, if_pos (Or.inr c3)]; exact ⟨_, _, _, rfl, rfl, hI⟩
  have cc : ¬ ((y2 < 0 ∨ nI (2 ^ n - 1) < y2) ∨ (y3 < 1 ∨ 3 < y3)) := fun z => z.elim c2 c3
  rw [if_neg c3, if_neg cc]
  obtain ⟨s, hs, rfl⟩ := z_setOf hn c2
  obtain ⟨h, hh1, hh3, rfl⟩ := i32_rng (v := y3) 1 3 (fun z => c3 (Or.inl z)) (fun z => c3 (Or.inr z)) (by decide) (by decide)
  simp only [if_neg z10]
  have w4 := f8_in y4 0 2
  rw [show (0 : Int32).toInt64 = 0 from rfl, show (2 : Int32).toInt64 = 2 from rfl] at w4
  rw [f7_within, w4]
  simp only [z_sbind]
  by_cases c4 : y4 < 0 ∨ 2 < y4
  · rw [if_pos c4]; exact ⟨_, _, _, rfl, rfl, hI⟩
  rw [if_neg c4]
  simp only [if_neg z10]
  obtain ⟨h1, h2, h3⟩ := hls k hk
  obtain ⟨a2, u0, u1, u2⟩ := f7_findRings (N := N) (s := s) hb hk h1.1 hh3 ha h2 (by omega)
  obtain ⟨b2, H, eH, hHl, v0, v1, v2, v3, v4⟩ := f8_findRings (N := N) hk hn h1 hs hh1 hh3 h3 hN
  rw [← eH] at u1
  have hsum := f8_sum_loop (b := b2) y4 64 0 0 N (by omega) (by omega)
  rw [show nI 0 = (0 : Int32) from rfl, Nat.zero_add] at hsum
  have hinv := zInv_cov hI u2 v4
  rw [u0, v0]
  simp only [z_sbind]
  rw [hsum, z_sbind, v1, u1.1]
  by_cases q0 : y4 = 0
  · rw [if_pos q0, if_pos q0]; exact ⟨_, _, _, rfl, rfl, hinv⟩
  rw [if_neg q0, if_neg q0]
  have e20 : gI a2 20 = gI b2 33 := by
    rcases u1.2.2 with ⟨z1, z2⟩ | ⟨c, T, z1, -, -, z2, -⟩ <;> rcases v3 with ⟨y1, y2⟩ | ⟨c', T', y1, y2⟩
    · rw [z2, y2]
    · rw [z1] at y1; cases y1
    · rw [z1] at y1; cases y1
    · rw [z1] at y1; cases y1; rw [z2, y2]
  by_cases q1 : y4 = 1
  · rw [if_pos q1, if_pos q1, e20]; exact ⟨_, _, _, rfl, rfl, hinv⟩
  rw [if_neg q1, if_neg q1]
  by_cases q2 : H = []
  · rw [if_pos (show nI H.length = 0 by rw [q2]; rfl), if_pos (show nI H.length = 0 by rw [q2]; rfl)]
    exact ⟨_, _, _, rfl, rfl, hinv⟩
  · have hpos : H.length ≠ 0 := fun z => q2 (List.eq_nil_of_length_eq_zero z)
    rw [if_neg (fun z => hpos ((nI_eq0 (by omega)).mp z)), if_neg (fun z => hpos ((nI_eq0 (by omega)).mp z)), z_bc64, z_sbind, v2, u1.2.1]
    unfold zal
    rw [if_neg q2]
    exact ⟨_, _, _, rfl, rfl, hinv⟩
theorem z_common {a b : xT} (v : Int32) (h : gJ a 0 = gJ b 34) : ∀ r i acc f1 f2, i + r = 64 → r < f1 → r < f2 → ∃ z, f_X0_commonAt_L4 v a f1 acc (nI i) = some z ∧ f_X8_inAll_L38 v b f2 acc (nI i) = some z := by
  intro r
  induction r with
  | zero =>
    intro i acc f1 f2 hi hf1 hf2
    obtain ⟨fu, rfl⟩ : ∃ fu, f1 = fu + 1 := ⟨f1 - 1, by omega⟩
    obtain ⟨gu, rfl⟩ : ∃ gu, f2 = gu + 1 := ⟨f2 - 1, by omega⟩
    rw [f_X0_commonAt_L4, f_X8_inAll_L38, if_pos (show (64 : Int32) ≤ nI i from nI_le (a := 64) (by omega) (by omega)), if_pos (show (64 : Int32) ≤ nI i from nI_le (a := 64) (by omega) (by omega))]
    exact ⟨_, rfl, rfl⟩
  | succ r ih =>
    intro i acc f1 f2 hi hf1 hf2
    obtain ⟨fu, rfl⟩ : ∃ fu, f1 = fu + 1 := ⟨f1 - 1, by omega⟩
    obtain ⟨gu, rfl⟩ : ∃ gu, f2 = gu + 1 := ⟨f2 - 1, by omega⟩
    rw [f_X0_commonAt_L4, f_X8_inAll_L38, if_neg (show ¬ (64 : Int32) ≤ nI i from nI_ge (b := 64) (by omega) (by decide)), if_neg (show ¬ (64 : Int32) ≤ nI i from nI_ge (b := 64) (by omega) (by decide)), h, z_sar (by omega), nI_1]
    by_cases c : zbit (gJ b 34) i = true
    · rw [if_neg (fun z => by rw [zbit_shr (by omega), c] at z; cases z), if_pos c, if_pos rfl]
      by_cases c2 : acc = v
      · rw [if_pos c2, if_pos c2]; exact ⟨_, rfl, rfl⟩
      · rw [if_neg c2, if_neg c2]
        exact ih (i + 1) _ fu gu (by omega) (by omega) (by omega)
    · have c' : zbit (gJ b 34) i = false := by simpa using c
      rw [if_pos ((zbit_shr (by omega)).mpr c'), if_neg c, if_neg (by decide)]
      exact ih (i + 1) _ fu gu (by omega) (by omega) (by omega)
theorem z_none0 {b : xT} (v : Int32) (h : gJ b 34 = 0) : ∀ r i acc f2, i + r = 64 → r < f2 → f_X8_inAll_L38 v b f2 acc (nI i) = some (.inl ()) := by
  intro r
  induction r with
  | zero =>
    intro i acc f2 hi hf2
    obtain ⟨gu, rfl⟩ : ∃ gu, f2 = gu + 1 := ⟨f2 - 1, by omega⟩
    rw [f_X8_inAll_L38, if_pos (show (64 : Int32) ≤ nI i from nI_le (a := 64) (by omega) (by omega))]
  | succ r ih =>
    intro i acc f2 hi hf2
    obtain ⟨gu, rfl⟩ : ∃ gu, f2 = gu + 1 := ⟨f2 - 1, by omega⟩
    rw [f_X8_inAll_L38, if_neg (show ¬ (64 : Int32) ≤ nI i from nI_ge (b := 64) (by omega) (by decide)), z_sar (by omega), nI_1, h, zbit_0, if_neg (by decide)]
    exact ih (i + 1) _ gu (by omega) (by omega)
theorem p_inAll {N : Nat} (hN : 1000000 ≤ N) : xP_inAll N zInv := by
  intro y1 y2 y3 y4 a b hI
  obtain ⟨n, kd, t, d, hb, ha, hB, ⟨ls, hls⟩, hlo, htx, hf, hca⟩ := id hI
  have hn := hb.2.1
  unfold f_X7_inAll f_X8_inAll
  rcases z_isL y1 with ⟨e1, e2⟩ | ⟨k, hk, rfl, e1, e2⟩
  · rw [e1, e2]; exact ⟨_, _, _, rfl, rfl, hI⟩
  rw [e1, e2]
  simp only [z_sbind, if_neg z10]
  rw [f1_isSet y2 ha.1 hn, z_asked y2 y3 (nI k) hB.1 hn, f7_within]
  simp only [z_sbind]
  by_cases c2 : y2 < 0 ∨ nI (2 ^ n - 1) < y2
  · rw [if_pos c2, if_pos (Or.inl c2)]; exact ⟨_, _, _, rfl, rfl, hI⟩
  rw [if_neg c2]
  simp only [if_neg z10]
  by_cases c3 : y3 < 1 ∨ 3 < y3
  · rw [if_pos c3, if_pos (Or.inr c3)]; exact ⟨_, _, _, rfl, rfl, hI⟩
  have cc : ¬ ((y2 < 0 ∨ nI (2 ^ n - 1) < y2) ∨ (y3 < 1 ∨ 3 < y3)) := fun z => z.elim c2 c3
  rw [if_neg c3, if_neg cc]
  obtain ⟨s, hs, rfl⟩ := z_setOf hn c2
  obtain ⟨h, hh1, hh3, rfl⟩ := i32_rng (v := y3) 1 3 (fun z => c3 (Or.inl z)) (fun z => c3 (Or.inr z)) (by decide) (by decide)
  simp only [if_neg z10]
  obtain ⟨h1, h2, h3⟩ := hls k hk
  obtain ⟨a2, u0, u1, u2⟩ := f7_findRings (N := N) (s := s) hb hk h1.1 hh3 ha h2 (by omega)
  obtain ⟨b2, H, eH, hHl, v0, v1, v2, v3, v4⟩ := f8_findRings (N := N) hk hn h1 hs hh1 hh3 h3 hN
  rw [← eH] at u1
  have hinv := zInv_cov hI u2 v4
  rw [u0, v0]
  simp only [z_sbind]
  rw [u1.1]
  by_cases q2 : H = []
  · have hz := z_none0 (b := b2) y4 (by rw [v2]; unfold zal; rw [if_pos q2]) 64 0 0 N (by omega) (by omega)
    rw [show nI 0 = (0 : Int32) from rfl] at hz
    rw [if_pos (show nI H.length = 0 by rw [q2]; rfl), hz, z_sbind]
    exact ⟨_, _, _, rfl, rfl, hinv⟩
  · have hpos : H.length ≠ 0 := fun z => q2 (List.eq_nil_of_length_eq_zero z)
    have hj : gJ a2 0 = gJ b2 34 := by rw [v2, u1.2.1]; unfold zal; rw [if_neg q2]
    obtain ⟨z, z1, z2⟩ := z_common y4 hj 64 0 0 N N (by omega) (by omega) (by omega)
    rw [show nI 0 = (0 : Int32) from rfl] at z1 z2
    rw [if_neg (fun z => hpos ((nI_eq0 (by omega)).mp z))]
    unfold f_X0_commonAt
    rw [z1, z2]
    simp only [z_sbind]
    cases z with
    | inl u => exact ⟨_, _, _, rfl, rfl, hinv⟩
    | inr w => exact ⟨_, _, _, rfl, rfl, hinv⟩
