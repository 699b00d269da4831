/-! all calls, and the start -/
def pN : Nat := 2 ^ 60
theorem pN_20 : 20 ≤ pN := by decide
theorem pN_70 : 70 ≤ pN := by decide
theorem pN_5k : 5000 ≤ pN := by decide
theorem pN_1m : 1000000 ≤ pN := by decide
theorem pN_40 : 2 ^ 40 ≤ pN := by decide
theorem pure_all : xAll pN zInv := ⟨p_places pN_70, p_island pN, p_is pN, p_turned pN_20, p_may pN_20, p_between pN_5k, p_fills pN_20, p_add pN_70, p_drop pN_5k, p_clear pN_70, p_mark pN, p_good pN_5k, p_build pN_5k, p_most pN_40, p_bound pN_5k, p_lay pN_5k, p_join pN_5k, p_shorten pN_5k, p_turn pN_5k, p_even pN_5k, p_feed pN_5k, p_read pN_5k, p_fault pN, p_count pN_70, p_owner pN_70, p_look pN, p_chance pN_70, p_likely pN_5k, p_heap pN_1m, p_make pN, p_trace pN_1m, p_inAll pN_1m, p_framed pN_1m⟩
theorem pure_start : zInv a0 b1 := by
  have hA : ∀ k, k < 6 → gI a0 (23 + k) = 0 := by decide +kernel
  have hB : ∀ k, k < 6 → gA b1 45 k = 0 := by decide +kernel
  have hL : ∀ p, p < 12 → gA a0 4 p = -1 ∧ gA b1 57 p = -1 := by decide +kernel
  refine ⟨7, 0, 1, 0, ⟨by decide, by decide, by decide, by decide, by decide⟩, ⟨rfl, rfl, rfl, rfl⟩, ⟨by decide +kernel, by decide +kernel, by decide +kernel, by decide +kernel⟩, ⟨fun _ => [], fun k hk => ⟨⟨Nat.zero_le _, List.nodup_nil, fun m hm => absurd hm List.not_mem_nil⟩, ⟨hA k hk, fun i hi => absurd hi (Nat.not_lt_zero i), fun m _ => zbit_zero _⟩, ⟨hB k hk, fun i hi => absurd hi (Nat.not_lt_zero i)⟩⟩⟩, fun p hp => ⟨(hL p hp).1.trans (hL p hp).2.symm, Or.inl (hL p hp).1⟩, ⟨0, by decide, rfl, by decide +kernel, fun j hj => absurd hj (Nat.not_lt_zero j)⟩, by decide +kernel, Or.inl rfl⟩
