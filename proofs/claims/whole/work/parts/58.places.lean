/-! count, places -/
theorem z_cnt {a b : xT} {n : Nat} {ls : Nat → List Nat} (h : ∀ k, k < 6 → zlw n (ls k) ∧ zlA a k (ls k) ∧ zlB b k (ls k)) (v : Int32) : ∀ r i fuel (s : Int32), i + r = 6 → r < fuel → ∃ x, f_X7_marksInAll_L4 a fuel s (nI i) = some x ∧ f_X8_count_L4 v b fuel s (nI i) = some x := by
  intro r
  induction r with
  | zero =>
    intro i fuel s hi hf
    obtain ⟨fu, rfl⟩ : ∃ fu, fuel = fu + 1 := ⟨fuel - 1, by omega⟩
    have c : (6 : Int32) ≤ nI i := nI_le (a := 6) (by omega) (by omega)
    exact ⟨s, by rw [f_X7_marksInAll_L4, if_pos c], by rw [f_X8_count_L4, if_pos c]⟩
  | succ r ih =>
    intro i fuel s hi hf
    obtain ⟨fu, rfl⟩ : ∃ fu, fuel = fu + 1 := ⟨fuel - 1, by omega⟩
    have c : ¬ (6 : Int32) ≤ nI i := nI_ge (b := 6) (by omega) (by decide)
    have hx := z_xin (k := i) (n := 6) (by omega) (by decide)
    obtain ⟨-, h2, h3⟩ := h i (by omega)
    rw [f_X7_marksInAll_L4, f_X8_count_L4, if_neg c, if_neg c, if_pos hx, if_pos hx, nI_clamp (by omega), nI_1, h2.1, h3.1]
    exact ih (i + 1) fu _ (by omega) (by omega)
theorem nI_nneg {v : Nat} (hv : v < 2 ^ 31) : ¬ nI v = -1 := by
  intro z
  have h1 := congrArg Int32.toInt z
  rw [nI_toInt hv] at h1
  have h2 : (-1 : Int32).toInt = -1 := by decide
  omega
theorem z_lkd {a b : xT} {n : Nat} (h : zlo a b n) (v w : Int32) : ∀ r i fuel (s : Int32), i + r = 12 → r < fuel → ∃ x, f_X4_lookedAt_L4 a fuel s (nI i) = some x ∧ f_X8_count_L30 v w b fuel s (nI i) = some x := by
  intro r
  induction r with
  | zero =>
    intro i fuel s hi hf
    obtain ⟨fu, rfl⟩ : ∃ fu, fuel = fu + 1 := ⟨fuel - 1, by omega⟩
    have c : (12 : Int32) ≤ nI i := nI_le (a := 12) (by omega) (by omega)
    exact ⟨s, by rw [f_X4_lookedAt_L4, if_pos c], by rw [f_X8_count_L30, if_pos c]⟩
  | succ r ih =>
    intro i fuel s hi hf
    obtain ⟨fu, rfl⟩ : ∃ fu, fuel = fu + 1 := ⟨fuel - 1, by omega⟩
    have c : ¬ (12 : Int32) ≤ nI i := nI_ge (b := 12) (by omega) (by decide)
    have hx := z_xin (k := i) (n := 12) (by omega) (by decide)
    obtain ⟨h1, h2⟩ := h i (by omega)
    rw [f_X4_lookedAt_L4, f_X8_count_L30, if_neg c, if_neg c, if_pos hx, if_pos hx, nI_clamp (by omega), nI_1, ← h1]
    rcases h2 with e | ⟨-, x, hx9, e⟩
    · rw [e, if_pos rfl, if_pos (by decide)]
      have e0 : s + 0 = s := by rw [show (0 : Int32) = nI 0 from rfl]; exact Int32.add_zero s
      rw [e0]
      exact ih (i + 1) fu s (by omega) (by omega)
    · rw [e, if_neg (nI_nneg (by omega)), if_neg (nI_pos (by omega))]
      exact ih (i + 1) fu _ (by omega) (by omega)
theorem p_count {N : Nat} (hN : 70 ≤ N) : xP_count N zInv := by
  intro y a b hI
  obtain ⟨n, kd, t, d, hb, ha, hB, ⟨ls, hls⟩, hlo, ⟨tl, -, t1, t2, -⟩, -, -⟩ := id hI
  obtain ⟨x, e1, e2⟩ := z_cnt hls y 6 0 N 0 (by omega) (by omega)
  obtain ⟨z, e3, e4⟩ := z_lkd hlo y x 12 0 N 0 (by omega) (by omega)
  unfold f_X7_count f_X8_count f_X7_marksInAll f_X4_lookedAt
  rw [show nI 0 = (0 : Int32) from rfl] at e1 e2 e3 e4
  rw [e1, e2]
  simp only [Option.bind_some]
  rw [e3, e4]
  simp only [Option.bind_some]
  rw [t1, t2]
  by_cases c0 : y = 0
  · simp only [if_pos c0]; exact ⟨_, rfl, rfl, hI⟩
  by_cases c1 : y = 1
  · simp only [if_neg c0, if_pos c1]; exact ⟨_, rfl, rfl, hI⟩
  by_cases c2 : y = 2
  · simp only [if_neg c0, if_neg c1, if_pos c2]; exact ⟨_, rfl, rfl, hI⟩
  · simp only [if_neg c0, if_neg c1, if_neg c2]; exact ⟨_, rfl, rfl, hI⟩
theorem f7_pl_loop {N : Nat} (hN : 70 ≤ N) (v : Int32) : ∀ r i a fuel, i + r = 6 → r < fuel → ∃ a2, f_X7_places_L25 N v fuel (nI i) a = some a2 ∧ (∀ j, j < 23 ∨ 29 ≤ j → gI a2 j = gI a j) ∧ (∀ c j, gA a2 c j = gA a c j) ∧ (∀ k, k < i → gI a2 (23 + k) = gI a (23 + k) ∧ ∀ j, gB a2 (37 + k) j = gB a (37 + k) j) ∧ ∀ k, i ≤ k → k < 6 → gI a2 (23 + k) = 0 ∧ ∀ j, j < 64 → gB a2 (37 + k) j = 0 := by
  intro r
  induction r with
  | zero =>
    intro i a fuel hi hf
    obtain ⟨fu, rfl⟩ : ∃ fu, fuel = fu + 1 := ⟨fuel - 1, by omega⟩
    refine ⟨a, ?_, fun _ _ => rfl, fun _ _ => rfl, fun _ _ => ⟨rfl, fun _ => rfl⟩, fun k h1 h2 => by omega⟩
    rw [f_X7_places_L25, if_pos (show (6 : Int32) ≤ nI i from nI_le (a := 6) (by omega) (by omega))]
  | succ r ih =>
    intro i a fuel hi hf
    obtain ⟨fu, rfl⟩ : ∃ fu, fuel = fu + 1 := ⟨fuel - 1, by omega⟩
    have hx := z_xin (k := i) (n := 6) (by omega) (by decide)
    rw [f_X7_places_L25, if_neg (show ¬ (6 : Int32) ≤ nI i from nI_ge (b := 6) (by omega) (by decide)), if_pos hx, nI_clamp (by omega), nI_1]
    obtain ⟨a1, e, g1, g2, g3, g4⟩ := f3_wipe (k := i) a hN
    rw [e]
    obtain ⟨a2, e2, h1, h2, h3, h4⟩ := ih (i + 1) a1 fu (by omega) (by omega)
    refine ⟨a2, e2, fun j hj => ?_, fun c j => ?_, fun k hk => ⟨?_, fun j => ?_⟩, fun k hk hk2 => ?_⟩
    · rw [h1 j hj, g1, if_neg (by omega)]
    · rw [h2, g2]
    · rw [(h3 k (by omega)).1, g1, if_neg (by omega)]
    · rw [(h3 k (by omega)).2, g3 _ _ (by omega)]
    · by_cases e3 : k = i
      · subst e3
        exact ⟨by rw [(h3 k (by omega)).1, g1, if_pos rfl], fun j hj => by rw [(h3 k (by omega)).2, g4 j hj]⟩
      · exact h4 k (by omega) hk2
theorem f_filli {v : Int32} : ∀ r i a fuel, i + r = 12 → r < fuel → ∃ a2, f_J7_fill_53178_L5 v 12 fuel (nI i) a = some a2 ∧ (∀ j, gI a2 j = gI a j) ∧ (∀ c j, gB a2 c j = gB a c j) ∧ (∀ c j, c ≠ 4 → gA a2 c j = gA a c j) ∧ (∀ j, j < i → gA a2 4 j = gA a 4 j) ∧ ∀ j, i ≤ j → j < 12 → gA a2 4 j = v := by
  intro r
  induction r with
  | zero =>
    intro i a fuel hi hf
    obtain ⟨fu, rfl⟩ : ∃ fu, fuel = fu + 1 := ⟨fuel - 1, by omega⟩
    refine ⟨a, ?_, fun _ => rfl, fun _ _ => rfl, fun _ _ _ => rfl, fun _ _ => rfl, fun j h1 h2 => by omega⟩
    rw [f_J7_fill_53178_L5, if_pos (show (12 : Int32) ≤ nI i from nI_le (a := 12) (by omega) (by omega))]
  | succ r ih =>
    intro i a fuel hi hf
    obtain ⟨fu, rfl⟩ : ∃ fu, fuel = fu + 1 := ⟨fuel - 1, by omega⟩
    rw [f_J7_fill_53178_L5, if_neg (show ¬ (12 : Int32) ≤ nI i from nI_ge (b := 12) (by omega) (by decide)), if_pos (z_xin (by omega) (by decide)), nI_clamp (by omega), nI_1]
    obtain ⟨a2, e, h1, h2, h3, h4, h5⟩ := ih (i + 1) (sA a 4 (upd (gA a 4) i v)) fu (by omega) (by omega)
    refine ⟨a2, e, h1, h2, fun c j hc => ?_, fun j hj => ?_, fun j hj hj2 => ?_⟩
    · rw [h3 c j hc, gA_sA, if_neg hc]
    · rw [h4 j (by omega), gA_sA, if_pos rfl, upd_at, if_neg (by omega)]
    · by_cases e2 : j = i
      · subst e2
        rw [h4 j (by omega), gA_sA, if_pos rfl, upd_at, if_pos rfl]
      · exact h5 j (by omega) hj2
theorem f8_e2 : ∀ r i b fuel, i + r = 6 → r < fuel → ∃ b2, f_X8_empty_L2 fuel (nI i) b = some b2 ∧ (∀ j, gI b2 j = gI b j) ∧ (∀ c j, c ≠ 45 → gA b2 c j = gA b c j) ∧ (∀ j, j < i → gA b2 45 j = gA b 45 j) ∧ ∀ j, i ≤ j → j < 6 → gA b2 45 j = 0 := by
  intro r
  induction r with
  | zero =>
    intro i a fuel hi hf
    obtain ⟨fu, rfl⟩ : ∃ fu, fuel = fu + 1 := ⟨fuel - 1, by omega⟩
    refine ⟨a, ?_, fun _ => rfl, fun _ _ _ => rfl, fun _ _ => rfl, fun j h1 h2 => by omega⟩
    rw [f_X8_empty_L2, if_pos (show (6 : Int32) ≤ nI i from nI_le (a := 6) (by omega) (by omega))]
  | succ r ih =>
    intro i a fuel hi hf
    obtain ⟨fu, rfl⟩ : ∃ fu, fuel = fu + 1 := ⟨fuel - 1, by omega⟩
    rw [f_X8_empty_L2, if_neg (show ¬ (6 : Int32) ≤ nI i from nI_ge (b := 6) (by omega) (by decide)), if_pos (z_xin (by omega) (by decide)), nI_clamp (by omega), nI_1]
    obtain ⟨a2, e, h1, h3, h4, h5⟩ := ih (i + 1) (sA a 45 (upd (gA a 45) i 0)) fu (by omega) (by omega)
    refine ⟨a2, e, h1, fun c j hc => ?_, fun j hj => ?_, fun j hj hj2 => ?_⟩
    · rw [h3 c j hc, gA_sA, if_neg hc]
    · rw [h4 j (by omega), gA_sA, if_pos rfl, upd_at, if_neg (by omega)]
    · by_cases e2 : j = i
      · subst e2
        rw [h4 j (by omega), gA_sA, if_pos rfl, upd_at, if_pos rfl]
      · exact h5 j (by omega) hj2
theorem f8_e23 : ∀ r i b fuel, i + r = 12 → r < fuel → ∃ b2, f_X8_empty_L23 fuel (nI i) b = some b2 ∧ (∀ j, gI b2 j = gI b j) ∧ (∀ c j, c ≠ 57 → gA b2 c j = gA b c j) ∧ (∀ j, j < i → gA b2 57 j = gA b 57 j) ∧ ∀ j, i ≤ j → j < 12 → gA b2 57 j = -1 := by
  intro r
  induction r with
  | zero =>
    intro i a fuel hi hf
    obtain ⟨fu, rfl⟩ : ∃ fu, fuel = fu + 1 := ⟨fuel - 1, by omega⟩
    refine ⟨a, ?_, fun _ => rfl, fun _ _ _ => rfl, fun _ _ => rfl, fun j h1 h2 => by omega⟩
    rw [f_X8_empty_L23, if_pos (show (12 : Int32) ≤ nI i from nI_le (a := 12) (by omega) (by omega))]
  | succ r ih =>
    intro i a fuel hi hf
    obtain ⟨fu, rfl⟩ : ∃ fu, fuel = fu + 1 := ⟨fuel - 1, by omega⟩
    rw [f_X8_empty_L23, if_neg (show ¬ (12 : Int32) ≤ nI i from nI_ge (b := 12) (by omega) (by decide)), if_pos (z_xin (by omega) (by decide)), nI_clamp (by omega), nI_1]
    obtain ⟨a2, e, h1, h3, h4, h5⟩ := ih (i + 1) (sA a 57 (upd (gA a 57) i (-1))) fu (by omega) (by omega)
    refine ⟨a2, e, h1, fun c j hc => ?_, fun j hj => ?_, fun j hj hj2 => ?_⟩
    · rw [h3 c j hc, gA_sA, if_neg hc]
    · rw [h4 j (by omega), gA_sA, if_pos rfl, upd_at, if_neg (by omega)]
    · by_cases e2 : j = i
      · subst e2
        rw [h4 j (by omega), gA_sA, if_pos rfl, upd_at, if_pos rfl]
      · exact h5 j (by omega) hj2
theorem f8_empty {N : Nat} (b : xT) (hN : 70 ≤ N) : ∃ b2, f_X8_empty N b = some b2 ∧ (∀ j, gI b2 j = gI b j) ∧ (∀ c j, c ≠ 45 → c ≠ 57 → gA b2 c j = gA b c j) ∧ (∀ j, j < 6 → gA b2 45 j = 0) ∧ ∀ j, j < 12 → gA b2 57 j = -1 := by
  obtain ⟨b1', e1, h1, h2, h3, h4⟩ := f8_e2 6 0 b N (by omega) (by omega)
  obtain ⟨b2, e2, g1, g2, g3, g4⟩ := f8_e23 12 0 b1' N (by omega) (by omega)
  rw [show nI 0 = (0 : Int32) from rfl] at e1 e2
  refine ⟨b2, ?_, fun j => (g1 j).trans (h1 j), fun c j q1 q2 => (g2 c j q2).trans (h2 c j q1), fun j hj => (g2 45 j (by decide)).trans (h4 j (by omega) hj), fun j hj => g4 j (by omega) hj⟩
  unfold f_X8_empty
  rw [e1]
  simp only [Option.bind_some]
  rw [e2]
  rfl
theorem p_places {N : Nat} (hN : 70 ≤ N) : xP_places N zInv := by
  intro y a b hI
  obtain ⟨n, kd, t, d, hb, ha, hB, hls, hlo, htx, hf, hca⟩ := id hI
  unfold f_X7_places f_X8_places
  have w := f8_in y 2 12
  rw [show (2 : Int32).toInt64 = 2 from rfl, show (12 : Int32).toInt64 = 12 from rfl] at w
  rw [w]
  simp only [Option.bind_some]
  by_cases c1 : y < 2
  · rw [if_pos c1, if_pos (Or.inl c1)]; exact ⟨_, _, _, rfl, rfl, hI⟩
  by_cases c2 : 12 < y
  · rw [if_neg c1, if_pos (Or.inr c2), if_neg (show ¬ y ≤ 12 from Int32.not_le.mpr c2)]
    exact ⟨_, _, _, rfl, rfl, hI⟩
  rw [if_neg c1, if_neg (show ¬ (y < 2 ∨ 12 < y) from fun z => z.elim c1 c2), if_pos (show y ≤ 12 from Int32.not_lt.mp c2)]
  obtain ⟨v, hv1, hv2, rfl⟩ := i32_rng (v := y) 2 12 c1 c2 (by decide) (by decide)
  obtain ⟨a1, e1, g1, g2, g3, g4⟩ := f7_pl_loop hN (nI v) 6 0 (sI a 0 (nI v)) N (by omega) (by omega)
  obtain ⟨a2, e2, k1, k2, k3, -, k5⟩ := f_filli (v := -1) 12 0 a1 N (by omega) (by omega)
  obtain ⟨b2, e3, q1, q2, q3, q4⟩ := f8_empty (sI b 0 (nI v)) hN
  rw [show nI 0 = (0 : Int32) from rfl] at e1 e2
  unfold f_X4_forget f_J7_fill_53178 f_X2_forget
  rw [e1]
  simp only [Option.bind_some]
  rw [e2, if_neg z10, e3]
  simp only [Option.bind_some]
  have hq0 : gI b2 0 = nI v := by rw [q1]; rfl
  rw [hq0]
  have hA : ∀ j, j ≠ 0 → j ≠ 16 → (j < 23 ∨ 29 ≤ j) → gI (sI a2 16 0) j = gI a j := fun j j0 j16 hj => by
    rw [gI_sI, if_neg j16, k1, g1 j hj, gI_sI, if_neg j0]
  refine ⟨_, _, _, rfl, rfl, v, kd, t, d, ⟨hv1, hv2, hb.2.2⟩, ⟨?_, ?_, ?_, ?_⟩, ⟨hq0, ?_, ?_, ?_⟩, ?_, ?_, ?_, ?_, Or.inl rfl⟩
  · rw [gI_sI, if_neg (by decide), k1, g1 0 (by decide)]; rfl
  · rw [hA 1 (by decide) (by decide) (by decide)]; exact ha.2.1
  · rw [hA 2 (by decide) (by decide) (by decide)]; exact ha.2.2.1
  · rw [hA 3 (by decide) (by decide) (by decide)]; exact ha.2.2.2
  · rw [q1]; exact hB.2.1
  · rw [q1]; exact hB.2.2.1
  · rw [q1]; exact hB.2.2.2
  · refine ⟨fun _ => [], fun k hk => ⟨zlw_nil v, zlA_nil ?_ (fun j hj => ?_), zlB_nil (q3 k hk)⟩⟩
    · rw [gI_sI, if_neg (by omega), k1]; exact (g4 k (by omega) hk).1
    · rw [gB_sI, k2]; exact (g4 k (by omega) hk).2 j hj
  · intro p hp
    rw [gA_sI, k5 p (by omega) hp, q4 p hp]
    exact ⟨rfl, Or.inl rfl⟩
  · refine ztx_keep htx (hA 5 (by decide) (by decide) (by decide)) (by rw [q1]; rfl) (fun i => ?_) (fun i => ?_)
    · rw [gA_sI, k3 7 i (by decide), g2]; rfl
    · rw [q2 52 i (by decide) (by decide)]; rfl
  · rw [hA 11 (by decide) (by decide) (by decide), q1]; exact hf
