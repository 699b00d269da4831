/-! lists: numbers, marks, clear, look -/
theorem z_xin {k n : Nat} (h : k < n) (hn : n < 2 ^ 31) : xin (nI k) n := vp_in_nI h hn
theorem z10 : ¬ (1 : Int32) = 0 := by decide
theorem z_isL (v : Int32) : (f_X7_isList v = some 0 ∧ f_X8_isList v = some 0) ∨ ∃ k, k < 6 ∧ v = nI k ∧ f_X7_isList v = some 1 ∧ f_X8_isList v = some 1 := by
  have w := f8_in v 0 5
  rw [show (0 : Int32).toInt64 = 0 from rfl, show (5 : Int32).toInt64 = 5 from rfl] at w
  unfold f_X7_isList f_X8_isList
  rw [f7_within, w]
  simp only [Option.bind_some]
  by_cases c : v < 0 ∨ 5 < v
  · left; rw [if_pos c]; exact ⟨rfl, rfl⟩
  · right
    rw [if_neg c]
    obtain ⟨j, -, h1, h2⟩ := i32_rng (v := v) 0 5 (fun z => c (Or.inl z)) (fun z => c (Or.inr z)) (by decide) (by decide)
    exact ⟨j, by omega, h2, rfl, rfl⟩
theorem z_idx (v : Int32) {len : Nat} (hl : len ≤ 4096) : (v < 0 ∨ nI len - 1 < v) ∨ (¬ (v < 0 ∨ nI len - 1 < v) ∧ ∃ i, i < len ∧ v = nI i) := by
  by_cases c : v < 0 ∨ nI len - 1 < v
  · exact Or.inl c
  · right
    refine ⟨c, ?_⟩
    have h1 : (nI len - nI 1).toInt = (len : Int) - 1 := pk_sub_toInt (by omega) (by decide)
    have h2 : ¬ (nI len - nI 1).toInt < v.toInt := fun z => c (Or.inr (Int32.lt_iff_toInt_lt.mpr z))
    have h3 : ¬ v.toInt < 0 := fun z => c (Or.inl (Int32.lt_iff_toInt_lt.mpr (by simpa using z)))
    rw [h1] at h2
    refine ⟨v.toInt.toNat, by omega, ?_⟩
    apply Int32.toInt_inj.mp
    rw [nI_toInt (by omega)]
    omega
theorem z_isM {a b : xT} {n : Nat} {ls : Nat → List Nat} (h : ∀ k, k < 6 → zlw n (ls k) ∧ zlA a k (ls k) ∧ zlB b k (ls k)) (v w : Int32) : (f_X7_isMark v w a = some 0 ∧ f_X8_isOf v w b = some 0) ∨ ∃ k i, k < 6 ∧ i < (ls k).length ∧ v = nI k ∧ w = nI i ∧ f_X7_isMark v w a = some 1 ∧ f_X8_isOf v w b = some 1 := by
  unfold f_X7_isMark f_X8_isOf
  rcases z_isL v with ⟨e1, e2⟩ | ⟨k, hk, rfl, e1, e2⟩
  · left; rw [e1, e2]; exact ⟨rfl, rfl⟩
  · rw [e1, e2]
    obtain ⟨h1, h2, h3⟩ := h k hk
    have hx6 := z_xin (n := 6) hk (by decide)
    simp only [Option.bind_some, if_neg z10, if_pos hx6]
    rw [nI_clamp (by omega), h2.1, h3.1, f7_within]
    have w8 := f8_in w 0 (nI (ls k).length - 1)
    rw [show (0 : Int32).toInt64 = 0 from rfl] at w8
    rw [w8]
    simp only [Option.bind_some]
    have hl := h1.1
    rcases z_idx w (len := (ls k).length) (by omega) with c | ⟨c, i, hi, e⟩
    · left; rw [if_pos c]; exact ⟨rfl, rfl⟩
    · right
      refine ⟨k, i, hk, hi, rfl, e, ?_, ?_⟩
      · rw [if_neg c]; rfl
      · rw [if_neg c]; rfl
theorem f8_at {b : xT} {k i : Nat} {l : List Nat} (h : zlB b k l) (hk : k < 6) (hi : i < l.length) (hl : l.length ≤ 64) : f_X8_at (nI k) (nI i) b = some (nI (l.getD i 0)) := by
  unfold f_X8_at
  have e : (64 : Int32) * nI k + nI i = nI (64 * k + i) := by
    rw [show (64 : Int32) = nI 64 from rfl, pk_mul, nI_add]
  rw [e, if_pos (z_xin (by omega) (by decide)), nI_clamp (by omega), h.2 i hi]
theorem p_mark (N : Nat) : xP_mark N zInv := by
  intro y1 y2 a b hI
  obtain ⟨n, kd, t, d, hb, ha, hB, ⟨ls, hls⟩, -⟩ := id hI
  unfold f_X7_mark f_X8_mark
  rcases z_isL y1 with ⟨e1, e2⟩ | ⟨k, hk, rfl, e1, e2⟩
  · rw [e1, e2]; exact ⟨_, rfl, rfl, hI⟩
  · rw [e1, e2]
    obtain ⟨h1, h2, h3⟩ := hls k hk
    have hx6 := z_xin (n := 6) hk (by decide)
    simp only [Option.bind_some, if_neg z10, if_pos hx6]
    by_cases c : y2 = -1
    · simp only [if_pos c]
      rw [nI_clamp (by omega), h2.1, h3.1]
      exact ⟨_, rfl, rfl, hI⟩
    · simp only [if_neg c]
      rcases z_isM hls (nI k) y2 with ⟨e3, e4⟩ | ⟨k', i, hk', hi, ek, rfl, e3, e4⟩
      · rw [e3, e4]; exact ⟨_, rfl, rfl, hI⟩
      · have hkk : k = k' := (nI_eq (by omega) (by omega)).mp ek
        subst hkk
        have hl := h1.1
        have hx64 := z_xin (k := i) (n := 64) (by omega) (by decide)
        rw [e3, e4]
        simp only [Option.bind_some, if_neg z10, if_pos hx64]
        rw [nI_clamp (by omega), nI_clamp (by omega), h2.2.1 i hi, f8_at h3 hk hi hl]
        exact ⟨_, rfl, rfl, hI⟩
theorem p_look (N : Nat) : xP_look N zInv := by
  intro y1 y2 a b hI
  obtain ⟨n, kd, t, d, hb, ha, hB, hls, hlo, htx, hf, hca⟩ := id hI
  have hn := hb.2.1
  unfold f_X7_look f_X8_look f_X7_isPlace
  have w1 := f8_in y1 0 (nI n - 1)
  have w2 := f8_in y2 (-1) 9
  rw [show (0 : Int32).toInt64 = 0 from rfl] at w1
  rw [show (-1 : Int32).toInt64 = -1 from rfl, show (9 : Int32).toInt64 = 9 from rfl] at w2
  rw [ha.1, hB.1, f7_within, w1, f7_within, w2]
  simp only [Option.bind_some]
  rcases z_idx y1 (len := n) (by omega) with c | ⟨c, i, hi, rfl⟩
  · rw [if_pos c]; exact ⟨_, _, _, rfl, rfl, hI⟩
  rw [if_neg c]
  by_cases c2 : y2 < -1 ∨ 9 < y2
  · rw [if_pos c2]; exact ⟨_, _, _, rfl, rfl, hI⟩
  rw [if_neg c2]
  have hg : ((1 : Int32) &&& 1 = 1) := by decide
  have hx12 := z_xin (k := i) (n := 12) (by omega) (by decide)
  simp only [if_pos hg, Option.bind_some, if_neg z10, if_pos hx12]
  rw [nI_clamp (by omega), (hlo i (by omega)).1]
  refine ⟨_, _, _, rfl, rfl, n, kd, t, d, hb, ha, hB, ?_, ?_, htx, hf, hca⟩
  · refine zls_keep hls (fun k hk => rfl) (fun k j hk => ?_) (fun k j hk => rfl) (fun k => rfl) (fun k => rfl)
    rw [gA_sA, if_neg (by omega)]
  · intro p hp
    rw [gA_sA, if_pos rfl, gA_sA, if_pos rfl, upd_at, upd_at]
    by_cases e : p = i
    · rw [if_pos e, if_pos e]
      refine ⟨rfl, ?_⟩
      by_cases e2 : y2 = -1
      · exact Or.inl e2
      · right
        refine ⟨by omega, ?_⟩
        have h1 : ¬ y2.toInt < -1 := fun z => c2 (Or.inl (Int32.lt_iff_toInt_lt.mpr z))
        have h2 : ¬ 9 < y2.toInt := fun z => c2 (Or.inr (Int32.lt_iff_toInt_lt.mpr z))
        have h3 : y2.toInt ≠ -1 := fun z => e2 (Int32.toInt_inj.mp z)
        refine ⟨y2.toInt.toNat, by omega, ?_⟩
        apply Int32.toInt_inj.mp
        rw [nI_toInt (by omega)]
        omega
    · rw [if_neg e, if_neg e]
      exact hlo p hp
