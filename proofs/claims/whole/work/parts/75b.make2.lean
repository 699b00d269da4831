/-! make -/
theorem z_mk7 {n x y z s : Nat} (hn : n ≤ 12) (hx : x < 2 ^ n) (hs : s < 2 ^ n) : (if ((nI (zag n x s) ||| nI (zag n y s)) ||| nI (zag n z s)) = nI (2 ^ n - 1) then some (1 : Int32) else some 0) = some (bI (zcm ((x &&& y) &&& z) ((x ||| y) ||| z) s)) := by
  have hp := z_pow n (by omega)
  have h1 : (zag n x s ||| zag n y s) ||| zag n z s < 2 ^ n := Nat.or_lt_two_pow (Nat.or_lt_two_pow (zag_lt n x s) (zag_lt n y s)) (zag_lt n z s)
  have hr := z_ring (y := y) (z := z) hx hs
  rw [zI_or, zI_or]
  unfold zcm
  by_cases c : (zag n x s ||| zag n y s) ||| zag n z s = 2 ^ n - 1
  · rw [if_pos (by rw [c])]
    simp [(hr.mp c).1, (hr.mp c).2, bI]
  · rw [if_neg (fun z => c ((nI_eq (by omega) (by omega)).mp z))]
    by_cases c1 : znd ((x &&& y) &&& z) s = 0
    · have c2 : ¬ znd s ((x ||| y) ||| z) = 0 := fun q => c (hr.mpr ⟨c1, q⟩)
      simp [c1, c2, bI]
    · simp [c1, bI]
theorem z_mk8 {n x y z s : Nat} (hn : n ≤ 12) (hx : x < 2 ^ n) (hs : s < 2 ^ n) : (f_X8_canMake ((nI x &&& nI y) &&& nI z) ((nI x ||| nI y) ||| nI z) (nI s)).bind (fun q => if q = 0 then some (0 : Int32) else some 1) = some (bI (zcm ((x &&& y) &&& z) ((x ||| y) ||| z) s)) := by
  have hp := z_pow n (by omega)
  have h1 : (x &&& y) &&& z ≤ x := Nat.le_trans Nat.and_le_left Nat.and_le_left
  rw [zI_and, zI_and, zI_or, zI_or, f8_canMake (by omega) (by omega), z_sbind]
  cases zcm ((x &&& y) &&& z) ((x ||| y) ||| z) s <;> rfl
theorem p_make (N : Nat) : xP_make N zInv := by
  intro y1 y2 y3 y4 y5 a b hI
  obtain ⟨n, kd, t, d, hb, ha, hB, ⟨ls, hls⟩, hlo, htx, hf, hca⟩ := id hI
  unfold f_X7_make f_X8_make f_X7_isMarkOrNone
  rcases z_isM hls y1 y2 with ⟨e3, e4⟩ | ⟨k, i, hk, hi, rfl, rfl, e3, e4⟩
  · rw [e3, e4]; exact ⟨_, rfl, rfl, hI⟩
  rw [e3, e4]
  simp only [z_sbind, if_neg z10]
  obtain ⟨h1, h2, h3⟩ := hls k hk
  have hl := h1.1
  have hn := hb.2.1
  have hx6 := z_xin (n := 6) hk (by decide)
  have hxi := z_xin (k := i) (n := 64) (by omega) (by decide)
  have hmi := h1.2.2 _ (z_get hi)
  by_cases c3 : y3 = -1
  · simp only [if_pos c3, z_sbind, if_neg z10]
    by_cases c4 : y4 = -1
    · simp only [if_pos c4, z_sbind, if_neg z10]
      rw [f1_isSet y5 ha.1 hn, f8_isMark y5 hB.1 hn]
      simp only [z_sbind]
      by_cases c5 : y5 < 0 ∨ nI (2 ^ n - 1) < y5
      · rw [if_pos c5]; exact ⟨_, rfl, rfl, hI⟩
      obtain ⟨s, hs, rfl⟩ := z_setOf hn c5
      rw [if_neg c5]
      simp only [if_neg z10, if_pos hx6, if_pos hxi, if_pos c3, if_pos c4, nI_clamp (show k < 2 ^ 31 by omega), nI_clamp (show i < 2 ^ 31 by omega), h2.2.1 i hi, f8_at h3 hk hi hl, f1_agree ha.1 hn, f1_all ha.1 hn, z_sbind]
      rw [z_mk7 hn hmi hs, z_mk8 hn hmi hs]
      exact ⟨_, rfl, rfl, hI⟩
    · simp only [if_neg c4]
      rcases z_isM hls (nI k) y4 with ⟨e5j, e6j⟩ | ⟨kj, j, hkj, hj, ekj, rfl, e5j, e6j⟩
      · rw [e5j, e6j]; exact ⟨_, rfl, rfl, hI⟩
      have hkkj : k = kj := (nI_eq (by omega) (by omega)).mp ekj
      subst hkkj
      have hxj := z_xin (k := j) (n := 64) (by omega) (by decide)
      rw [e5j, e6j]
      simp only [z_sbind, if_neg z10]
      rw [f1_isSet y5 ha.1 hn, f8_isMark y5 hB.1 hn]
      simp only [z_sbind]
      by_cases c5 : y5 < 0 ∨ nI (2 ^ n - 1) < y5
      · rw [if_pos c5]; exact ⟨_, rfl, rfl, hI⟩
      obtain ⟨s, hs, rfl⟩ := z_setOf hn c5
      rw [if_neg c5]
      simp only [if_neg z10, if_pos hx6, if_pos hxi, if_pos hxj, if_pos c3, if_neg c4, nI_clamp (show k < 2 ^ 31 by omega), nI_clamp (show i < 2 ^ 31 by omega), nI_clamp (show j < 2 ^ 31 by omega), h2.2.1 i hi, h2.2.1 j hj, f8_at h3 hk hi hl, f8_at h3 hk hj hl, f1_agree ha.1 hn, f1_all ha.1 hn, z_sbind]
      rw [z_mk7 hn hmi hs, z_mk8 hn hmi hs]
      exact ⟨_, rfl, rfl, hI⟩
  · simp only [if_neg c3]
    rcases z_isM hls (nI k) y3 with ⟨e5j, e6j⟩ | ⟨kj, j, hkj, hj, ekj, rfl, e5j, e6j⟩
    · rw [e5j, e6j]; exact ⟨_, rfl, rfl, hI⟩
    have hkkj : k = kj := (nI_eq (by omega) (by omega)).mp ekj
    subst hkkj
    have hxj := z_xin (k := j) (n := 64) (by omega) (by decide)
    rw [e5j, e6j]
    simp only [z_sbind, if_neg z10]
    by_cases c4 : y4 = -1
    · simp only [if_pos c4, z_sbind, if_neg z10]
      rw [f1_isSet y5 ha.1 hn, f8_isMark y5 hB.1 hn]
      simp only [z_sbind]
      by_cases c5 : y5 < 0 ∨ nI (2 ^ n - 1) < y5
      · rw [if_pos c5]; exact ⟨_, rfl, rfl, hI⟩
      obtain ⟨s, hs, rfl⟩ := z_setOf hn c5
      rw [if_neg c5]
      simp only [if_neg z10, if_pos hx6, if_pos hxi, if_pos hxj, if_neg c3, if_pos c4, nI_clamp (show k < 2 ^ 31 by omega), nI_clamp (show i < 2 ^ 31 by omega), nI_clamp (show j < 2 ^ 31 by omega), h2.2.1 i hi, h2.2.1 j hj, f8_at h3 hk hi hl, f8_at h3 hk hj hl, f1_agree ha.1 hn, f1_all ha.1 hn, z_sbind]
      rw [z_mk7 hn hmi hs, z_mk8 hn hmi hs]
      exact ⟨_, rfl, rfl, hI⟩
    · simp only [if_neg c4]
      rcases z_isM hls (nI k) y4 with ⟨e5q, e6q⟩ | ⟨kq, q, hkq, hq, ekq, rfl, e5q, e6q⟩
      · rw [e5q, e6q]; exact ⟨_, rfl, rfl, hI⟩
      have hkkq : k = kq := (nI_eq (by omega) (by omega)).mp ekq
      subst hkkq
      have hxq := z_xin (k := q) (n := 64) (by omega) (by decide)
      rw [e5q, e6q]
      simp only [z_sbind, if_neg z10]
      rw [f1_isSet y5 ha.1 hn, f8_isMark y5 hB.1 hn]
      simp only [z_sbind]
      by_cases c5 : y5 < 0 ∨ nI (2 ^ n - 1) < y5
      · rw [if_pos c5]; exact ⟨_, rfl, rfl, hI⟩
      obtain ⟨s, hs, rfl⟩ := z_setOf hn c5
      rw [if_neg c5]
      simp only [if_neg z10, if_pos hx6, if_pos hxi, if_pos hxj, if_pos hxq, if_neg c3, if_neg c4, nI_clamp (show k < 2 ^ 31 by omega), nI_clamp (show i < 2 ^ 31 by omega), nI_clamp (show j < 2 ^ 31 by omega), nI_clamp (show q < 2 ^ 31 by omega), h2.2.1 i hi, h2.2.1 j hj, h2.2.1 q hq, f8_at h3 hk hi hl, f8_at h3 hk hj hl, f8_at h3 hk hq hl, f1_agree ha.1 hn, f1_all ha.1 hn, z_sbind]
      rw [z_mk7 hn hmi hs, z_mk8 hn hmi hs]
      exact ⟨_, rfl, rfl, hI⟩
