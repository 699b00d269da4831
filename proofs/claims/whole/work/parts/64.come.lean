/-! the reference's row: come, keep -/
def zrow (b : xT) (l : List Nat) : Prop := gI b 11 = nI l.length ∧ ∀ i, i < l.length → gA b 51 i = nI (l.getD i 0)
theorem z_drop {l : List Nat} {i : Nat} (h : i < l.length) : l.drop i = l.getD i 0 :: l.drop (i + 1) := by
  rw [List.drop_eq_getElem_cons h]
  simp [h]
theorem f8_come_loop {b : xT} {m : Nat} {l : List Nat} (h : zrow b l) (hl : l.length ≤ 4096) (hb : ∀ x ∈ l, x < 4096) (hm : m < 4096) : ∀ r i fuel, i + r = l.length → r < fuel → f_X8_come_L2 (nI m) b fuel (nI i) = some (if m ∈ l.drop i then .inr () else .inl ()) := by
  intro r
  induction r with
  | zero =>
    intro i fuel hi hf
    obtain ⟨fu, rfl⟩ : ∃ fu, fuel = fu + 1 := ⟨fuel - 1, by omega⟩
    rw [f_X8_come_L2, h.1, if_pos (nI_le (by omega) (by omega)), List.drop_eq_nil_of_le (by omega)]
    simp
  | succ r ih =>
    intro i fuel hi hf
    obtain ⟨fu, rfl⟩ : ∃ fu, fuel = fu + 1 := ⟨fuel - 1, by omega⟩
    have hil : i < l.length := by omega
    have hlt : l.getD i 0 < 4096 := hb _ (by simp [hil])
    rw [f_X8_come_L2, h.1, if_neg (nI_ge (by omega) (by omega)), if_pos (z_xin (by omega) (by decide)), nI_clamp (by omega), h.2 i hil, z_drop hil, nI_1]
    by_cases e : l.getD i 0 = m
    · rw [if_pos (by rw [e]), if_pos (by rw [e]; exact List.mem_cons_self)]
    · rw [if_neg (fun z => e ((nI_eq (by omega) (by omega)).mp z)), ih (i + 1) fu (by omega) (by omega)]
      have hiff : (m ∈ l.getD i 0 :: l.drop (i + 1)) ↔ m ∈ l.drop (i + 1) := ⟨fun z => (List.mem_cons.mp z).elim (fun z2 => absurd z2.symm e) id, List.mem_cons_of_mem _⟩
      simp only [hiff]
theorem f8_come {b : xT} {m N : Nat} {l : List Nat} (h : zrow b l) (hl : l.length < 4096 ∨ m ∈ l) (hl2 : l.length ≤ 4096) (hb : ∀ x ∈ l, x < 4096) (hm : m < 4096) (hN : 5000 ≤ N) : ∃ b2, f_X8_come N (nI m) b = some b2 ∧ zrow b2 (zonce l m) ∧ (∀ j, j ≠ 11 → gI b2 j = gI b j) ∧ ∀ c j, c ≠ 51 → gA b2 c j = gA b c j := by
  have e := f8_come_loop h hl2 hb hm l.length 0 N (by omega) (by omega)
  rw [show nI 0 = (0 : Int32) from rfl, List.drop_zero] at e
  unfold f_X8_come zonce
  rw [e]
  simp only [Option.bind_some]
  by_cases c : m ∈ l
  · simp only [if_pos c, Sum.elim_inr]
    exact ⟨b, rfl, h, fun _ _ => rfl, fun _ _ _ => rfl⟩
  · have hlt : l.length < 4096 := hl.resolve_right c
    simp only [if_neg c, Sum.elim_inl]
    rw [h.1, if_pos (z_xin hlt (by decide)), nI_clamp (by omega), nI_1]
    refine ⟨_, rfl, ⟨?_, fun i hi => ?_⟩, fun j hj => ?_, fun c j hc => ?_⟩
    · rw [gI_sI, if_pos rfl]; simp
    · rw [gA_sI, gA_sA, if_pos rfl, upd_at]
      rw [List.length_append, List.length_singleton] at hi
      by_cases e2 : i = l.length
      · rw [if_pos e2, e2]; simp
      · rw [if_neg e2, h.2 i (by omega), zgetD_app (by omega)]
    · rw [gI_sI, if_neg hj]; rfl
    · rw [gA_sI, gA_sA, if_neg hc]
theorem z_take {l : List Nat} {i : Nat} (h : i < l.length) : l.take i ++ [l.getD i 0] = l.take (i + 1) := by
  rw [List.take_succ]
  simp [h]
theorem f8_keep_loop {k : Nat} {l : List Nat} (hk : k < 6) (hl : l.length ≤ 64) : ∀ r i b fuel, zrow b l → zlB b k (l.take i) → i + r = l.length → r < fuel → ∃ b2, f_X8_keep_L22 (nI k) fuel (nI i) b = some b2 ∧ zlB b2 k l ∧ (∀ j, gI b2 j = gI b j) ∧ (∀ c j, c ≠ 45 → c ≠ 46 → gA b2 c j = gA b c j) ∧ (∀ j, j ≠ k → gA b2 45 j = gA b 45 j) ∧ ∀ j, (j < 64 * k ∨ 64 * k + 64 ≤ j) → gA b2 46 j = gA b 46 j := by
  intro r
  induction r with
  | zero =>
    intro i b fuel h h2 hi hf
    obtain ⟨fu, rfl⟩ : ∃ fu, fuel = fu + 1 := ⟨fuel - 1, by omega⟩
    rw [List.take_of_length_le (by omega)] at h2
    exact ⟨b, by rw [f_X8_keep_L22, h.1, if_pos (nI_le (by omega) (by omega))], h2, fun _ => rfl, fun _ _ _ _ => rfl, fun _ _ => rfl, fun _ _ => rfl⟩
  | succ r ih =>
    intro i b fuel h h2 hi hf
    obtain ⟨fu, rfl⟩ : ∃ fu, fuel = fu + 1 := ⟨fuel - 1, by omega⟩
    have hil : i < l.length := by omega
    have htl : (l.take i).length = i := by rw [List.length_take]; omega
    rw [f_X8_keep_L22, h.1, if_neg (nI_ge (by omega) (by omega)), if_pos (z_xin (n := 4096) (by omega) (by decide)), nI_clamp (by omega), h.2 i hil, nI_1]
    obtain ⟨b2, e4, q0, q1, q2, q3, q4⟩ := f8_put (m := l.getD i 0) h2 hk (by omega)
    rw [e4]
    simp only [Option.bind_some]
    rw [z_take hil] at q0
    have hr2 : zrow b2 l := ⟨(q1 11).trans h.1, fun j hj => (q2 51 j (by decide) (by decide)).trans (h.2 j hj)⟩
    obtain ⟨b3, e5, w0, w1, w2, w3, w4⟩ := ih (i + 1) b2 fu hr2 q0 (by omega) (by omega)
    refine ⟨b3, e5, w0, fun j => (w1 j).trans (q1 j), fun c j h5 h6 => (w2 c j h5 h6).trans (q2 c j h5 h6), fun j hj => (w3 j hj).trans (q3 j hj), fun j hj => (w4 j hj).trans (q4 j ?_)⟩
    rw [htl]
    omega
theorem f8_keep {b : xT} {k N : Nat} {l : List Nat} (h : zrow b l) (hk : k < 6) (hl : l.length ≤ 64) (hN : 5000 ≤ N) : ∃ b2, f_X8_keep N (nI k) b = some (nI l.length, b2) ∧ zlB b2 k l ∧ (∀ j, gI b2 j = gI b j) ∧ (∀ c j, c ≠ 45 → c ≠ 46 → gA b2 c j = gA b c j) ∧ (∀ j, j ≠ k → gA b2 45 j = gA b 45 j) ∧ ∀ j, (j < 64 * k ∨ 64 * k + 64 ≤ j) → gA b2 46 j = gA b 46 j := by
  have hr : zrow (sA b 45 (upd (gA b 45) k 0)) l := h
  have h0 : zlB (sA b 45 (upd (gA b 45) k 0)) k (l.take 0) := zlB_nil (by rw [gA_sA, if_pos rfl, upd_at, if_pos rfl])
  obtain ⟨b2, e, w0, w1, w2, w3, w4⟩ := f8_keep_loop hk hl l.length 0 _ N hr h0 (by omega) (by omega)
  rw [show nI 0 = (0 : Int32) from rfl] at e
  unfold f_X8_keep
  rw [h.1, if_pos (show nI l.length ≤ (64 : Int32) from nI_le (b := 64) hl (by decide)), if_pos (z_xin hk (by decide)), nI_clamp (by omega), e]
  simp only [Option.bind_some]
  rw [w1 11, show gI (sA b 45 (upd (gA b 45) k 0)) 11 = gI b 11 from rfl, h.1]
  refine ⟨b2, rfl, w0, w1, fun c j h5 h6 => (w2 c j h5 h6).trans (by rw [gA_sA, if_neg h5]), fun j hj => (w3 j hj).trans (by rw [gA_sA, if_pos rfl, upd_at, if_neg hj]), fun j hj => (w4 j hj).trans (by rw [gA_sA, if_neg (by decide)])⟩
theorem f8_keepFull {b : xT} {N : Nat} {l : List Nat} (v : Int32) (h : zrow b l) (hl : 64 < l.length) (hl2 : l.length ≤ 4096) : f_X8_keep N v b = some (-1004, b) := by
  unfold f_X8_keep
  rw [h.1, if_neg (show ¬ nI l.length ≤ (64 : Int32) from nI_ge (a := 64) hl (by omega))]
