/-! owner -/
theorem z_own {a b : xT} {n kd t d k s q N : Nat} {l : List Nat} (ha : zis a n kd t d) (hB : zis b n kd t d) (hb : zbd n kd t d) (h1 : zlw n l) (h2 : zlA a k l) (h3 : zlB b k l) (hk : k < 6) (hs : s < 4096) (hq : q < 4096) (hN : 70 ≤ N) (v4 : Int32) : ∀ r i fuel (x : Int32), i + r = l.length → r < fuel → ∃ z, f_X7_owner_L41 N (nI s) (nI q) v4 k a fuel x (nI i) = some z ∧ f_X8_owner_L30 N (nI k) (nI s) (nI q) v4 b fuel x (nI i) = some z := by
  have hx6 := z_xin (n := 6) hk (by decide)
  have hl := h1.1
  have hn := hb.2.1
  have hp := z_pow n (by omega)
  intro r
  induction r with
  | zero =>
    intro i fuel x hi hf
    obtain ⟨fu, rfl⟩ : ∃ fu, fuel = fu + 1 := ⟨fuel - 1, by omega⟩
    have c : nI l.length ≤ nI i := nI_le (by omega) (by omega)
    exact ⟨.inl x, by rw [f_X7_owner_L41, h2.1, if_pos c], by rw [f_X8_owner_L30, if_pos hx6, nI_clamp (by omega), h3.1, if_pos c]⟩
  | succ r ih =>
    intro i fuel x hi hf
    obtain ⟨fu, rfl⟩ : ∃ fu, fuel = fu + 1 := ⟨fuel - 1, by omega⟩
    have c : ¬ nI l.length ≤ nI i := nI_ge (by omega) (by omega)
    have hil : i < l.length := by omega
    have hx64 := z_xin (k := i) (n := 64) (by omega) (by decide)
    have hm : l.getD i 0 < 4096 := by
      have := h1.2.2 (l.getD i 0) (by simp [hil])
      omega
    rw [f_X7_owner_L41, f_X8_owner_L30, h2.1, if_neg c, if_pos hx64, if_pos hx6, nI_clamp (by omega), nI_clamp (by omega), h3.1, if_neg c, h2.2.1 i hil, f8_at h3 hk hil hl, nI_1]
    simp only [Option.bind_some]
    rw [f1_canShow ha hb (by omega) hm hs hq, f8_maySee hB hb (by omega) hm hs hq]
    simp only [Option.bind_some, bI_ne]
    by_cases e : zsee n kd t d (l.getD i 0) s q = false
    · simp only [if_pos e]
      exact ih (i + 1) fu x (by omega) (by omega)
    · simp only [if_neg e]
      by_cases e2 : x = v4
      · simp only [if_pos e2]; exact ⟨_, rfl, rfl⟩
      · simp only [if_neg e2]
        exact ih (i + 1) fu _ (by omega) (by omega)
theorem p_owner {N : Nat} (hN : 70 ≤ N) : xP_owner N zInv := by
  intro y1 y2 y3 y4 a b hI
  obtain ⟨n, kd, t, d, hb, ha, hB, ⟨ls, hls⟩, -⟩ := id hI
  have hn := hb.2.1
  have hp := z_pow n (by omega)
  unfold f_X7_owner f_X8_owner
  rcases z_isL y1 with ⟨e1, e2⟩ | ⟨k, hk, rfl, e1, e2⟩
  · rw [e1, e2]; exact ⟨_, rfl, rfl, hI⟩
  rw [e1, e2]
  obtain ⟨h1, h2, h3⟩ := hls k hk
  have hx6 := z_xin (n := 6) hk (by decide)
  simp only [Option.bind_some, if_neg z10, if_pos hx6]
  rcases z_seen y2 y3 ha.1 hB.1 hn with ⟨e3, e4⟩ | ⟨e3, e4, s, q, hs, hq, rfl, rfl⟩
  · rw [e3, e4]; exact ⟨_, rfl, rfl, hI⟩
  rw [e3, e4]
  simp only [Option.bind_some, if_neg z10]
  rw [nI_clamp (by omega)]
  have hl := h1.1
  obtain ⟨z, z1, z2⟩ := z_own ha hB hb h1 h2 h3 hk (show s < 4096 by omega) (show q < 4096 by omega) hN y4 (ls k).length 0 N 0 (by omega) (by omega)
  rw [show nI 0 = (0 : Int32) from rfl] at z1 z2
  rw [z1, z2]
  simp only [Option.bind_some]
  cases z with
  | inl x =>
    simp only [Sum.elim_inl]
    by_cases e : y4 = -1
    · simp only [if_pos e]; exact ⟨_, rfl, rfl, hI⟩
    · simp only [if_neg e]; exact ⟨_, rfl, rfl, hI⟩
  | inr x =>
    simp only [Sum.elim_inr]
    exact ⟨_, rfl, rfl, hI⟩
