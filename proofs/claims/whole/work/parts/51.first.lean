/-! is, fault, island, look, count of what stands -/
theorem p_is (N : Nat) : xP_is N zInv := by
  intro y a b hI
  obtain ⟨n, kd, t, d, hb, ha, hB, -⟩ := id hI
  have e1 : f_X7_is y a = f_X8_is y b := by
    unfold f_X7_is f_X8_is
    rw [ha.1, ha.2.1, ha.2.2.1, ha.2.2.2, hB.1, hB.2.1, hB.2.2.1, hB.2.2.2]
  have e2 : ∃ r, f_X8_is y b = some r := by
    unfold f_X8_is
    repeat' split
    all_goals exact ⟨_, rfl⟩
  obtain ⟨r, e2⟩ := e2
  exact ⟨r, e1.trans e2, e2, hI⟩
theorem p_fault (N : Nat) : xP_fault N zInv := by
  intro a b hI
  obtain ⟨n, kd, t, d, hb, ha, hB, -, -, -, hf, -⟩ := id hI
  refine ⟨gI a 11, ?_, ?_, hI⟩
  · unfold f_X7_fault; rfl
  · unfold f_X8_fault; rw [hf]
theorem zls_keep {a a2 b b2 : xT} {n : Nat} (h : zls a b n) (e1 : ∀ k, k < 6 → gI a2 (23 + k) = gI a (23 + k)) (e2 : ∀ k i, k < 6 → gA a2 (30 + k) i = gA a (30 + k) i) (e3 : ∀ k i, k < 6 → gB a2 (37 + k) i = gB a (37 + k) i) (e4 : ∀ k, gA b2 45 k = gA b 45 k) (e5 : ∀ k, gA b2 46 k = gA b 46 k) : zls a2 b2 n := by
  obtain ⟨ls, h⟩ := h
  refine ⟨ls, fun k hk => ?_⟩
  obtain ⟨h1, h2, h3⟩ := h k hk
  exact ⟨h1, zlA_keep h2 (e1 k hk) (fun i => e2 k i hk) (fun i => e3 k i hk), zlB_keep h3 (e4 k) (fun i => e5 _)⟩
theorem zlo_keep {a a2 b b2 : xT} {n : Nat} (h : zlo a b n) (e1 : ∀ i, gA a2 4 i = gA a 4 i) (e2 : ∀ i, gA b2 57 i = gA b 57 i) : zlo a2 b2 n := fun p hp => by
  rw [e1, e2]; exact h p hp
theorem ztx_keep {a a2 b b2 : xT} (h : ztx a b) (e1 : gI a2 5 = gI a 5) (e2 : gI b2 14 = gI b 14) (e3 : ∀ i, gA a2 7 i = gA a 7 i) (e4 : ∀ i, gA b2 52 i = gA b 52 i) : ztx a2 b2 := by
  obtain ⟨tl, h0, h1, h2, h3⟩ := h
  exact ⟨tl, h0, e1.trans h1, e2.trans h2, fun j hj => by rw [e3, e4]; exact h3 j hj⟩
theorem p_island (N : Nat) : xP_island N zInv := by
  intro y1 y2 y3 a b hI
  unfold f_X7_island f_X8_island
  have w1 := f8_in y1 0 3
  have w2 := f8_in y2 0 4
  have w3 := f8_in y3 0 4
  rw [show (0 : Int32).toInt64 = 0 from rfl, show (3 : Int32).toInt64 = 3 from rfl] at w1
  rw [show (0 : Int32).toInt64 = 0 from rfl, show (4 : Int32).toInt64 = 4 from rfl] at w2 w3
  rw [f7_within, f7_within, f7_within, w1, w2, w3]
  simp only [Option.bind_some]
  by_cases c1 : y1 < 0 ∨ 3 < y1
  · rw [if_pos c1]
    exact ⟨_, _, _, rfl, rfl, hI⟩
  by_cases c2 : y2 < 0 ∨ 4 < y2
  · rw [if_neg c1, if_pos c2]
    exact ⟨_, _, _, rfl, rfl, hI⟩
  by_cases c3 : y3 < 0 ∨ 4 < y3
  · rw [if_neg c1, if_neg c2, if_pos c3]
    exact ⟨_, _, _, rfl, rfl, hI⟩
  rw [if_neg c1, if_neg c2, if_neg c3]
  refine ⟨1, _, _, rfl, rfl, ?_⟩
  obtain ⟨n, kd, t, d, hb, ha, hB, hls, hlo, htx, hf, hca⟩ := hI
  obtain ⟨j1, -, l1, rfl⟩ := i32_rng (v := y1) 0 3 (fun z => c1 (Or.inl z)) (fun z => c1 (Or.inr z)) (by decide) (by decide)
  obtain ⟨j2, -, l2, rfl⟩ := i32_rng (v := y2) 0 4 (fun z => c2 (Or.inl z)) (fun z => c2 (Or.inr z)) (by decide) (by decide)
  obtain ⟨j3, -, l3, rfl⟩ := i32_rng (v := y3) 0 4 (fun z => c3 (Or.inl z)) (fun z => c3 (Or.inr z)) (by decide) (by decide)
  refine ⟨n, j1, j2, j3, ⟨hb.1, hb.2.1, l1, l2, l3⟩, ⟨ha.1, rfl, rfl, rfl⟩, ⟨hB.1, rfl, rfl, rfl⟩, zls_keep hls (fun k hk => ?_) (fun k i hk => rfl) (fun k i hk => rfl) (fun k => rfl) (fun k => rfl), zlo_keep hlo (fun i => rfl) (fun i => rfl), ztx_keep htx rfl rfl (fun i => rfl) (fun i => rfl), hf, Or.inl rfl⟩
  rcases (show k = 0 ∨ k = 1 ∨ k = 2 ∨ k = 3 ∨ k = 4 ∨ k = 5 by omega) with rfl | rfl | rfl | rfl | rfl | rfl <;> rfl
