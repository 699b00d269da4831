/-! copying a list, the fresh one -/
theorem z_clamp0 : Int32.toNatClampNeg 0 = 0 := by decide
theorem z_clamp64 : Int32.toNatClampNeg 64 = 64 := by decide
theorem f3_copy {a : xT} {k0 k1 : Nat} {l : List Nat} (h : zlA a k1 l) (hl : l.length ≤ 64) (h0 : k0 < 7) (h1 : k1 < 7) : ∃ a2, f_X3_copy k0 k1 a = some a2 ∧ zlA a2 k0 l ∧ (∀ j, j ≠ 23 + k0 → gI a2 j = gI a j) ∧ (∀ c j, c ≠ 30 + k0 → gA a2 c j = gA a c j) ∧ ∀ c j, c ≠ 37 + k0 → gB a2 c j = gB a c j := by
  have e0 : gI (sI a (23 + k0) (gI a (23 + k1))) (23 + k0) = nI l.length := by rw [gI_sI, if_pos rfl]; exact h.1
  have hp : ¬ nI l.length < 0 := nI_pos (by omega)
  have hc : Int32.toNatClampNeg (nI l.length) = l.length := nI_clamp (by omega)
  unfold f_X3_copy
  rw [e0, z_clamp0, z_clamp64, hc, if_pos ⟨by decide, by decide, hp, by omega, by omega⟩, if_pos ⟨by decide, by decide, by decide, by omega, by omega⟩]
  refine ⟨_, rfl, ⟨?_, fun i hi => ?_, fun m hm => ?_⟩, fun j hj => ?_, fun c j hj => ?_, fun c j hj => ?_⟩
  · rw [gI_sB, gI_sA]; exact e0
  · rw [gA_sB, gA_sA, if_pos rfl]
    unfold va_cpy
    rw [if_pos ⟨Nat.zero_le _, by omega⟩, Nat.zero_add, Nat.sub_zero]
    exact h.2.1 i hi
  · rw [gB_sB, if_pos rfl]
    unfold va_cpy
    rw [if_pos ⟨Nat.zero_le _, by omega⟩, Nat.zero_add, Nat.sub_zero]
    exact h.2.2 m hm
  · rw [gI_sB, gI_sA, gI_sI, if_neg hj]
  · rw [gA_sB, gA_sA, if_neg hj]; rfl
  · rw [gB_sB, if_neg hj]; rfl
/-- appendOnce: the list with the mark once behind it; 0 if it is full -/
def zonce (l : List Nat) (m : Nat) : List Nat := if m ∈ l then l else l ++ [m]
theorem f3_once {a : xT} {k m : Nat} {l : List Nat} (h : zlA a k l) (hl : l.length ≤ 64) (hm : m < 4096) (hk : k < 7) (hf : (zonce l m).length ≤ 64) : ∃ a2, f_X3_appendOnce k (nI m) a = some (1, a2) ∧ zlA a2 k (zonce l m) ∧ (∀ j, j ≠ 23 + k → gI a2 j = gI a j) ∧ (∀ c j, c ≠ 30 + k → gA a2 c j = gA a c j) ∧ ∀ c j, c ≠ 37 + k → gB a2 c j = gB a c j := by
  unfold f_X3_appendOnce
  rw [f3_holds h hm]
  simp only [Option.bind_some]
  unfold zonce at hf ⊢
  by_cases c : m ∈ l
  · have hd : bI (decide (m ∈ l)) = 1 := by simp [c, bI]
    rw [hd, if_neg z10, if_pos c]
    exact ⟨a, rfl, h, fun _ _ => rfl, fun _ _ _ => rfl, fun _ _ _ => rfl⟩
  · have hd : bI (decide (m ∈ l)) = 0 := by simp [c, bI]
    rw [if_neg c] at hf ⊢
    rw [List.length_append, List.length_singleton] at hf
    rw [hd, if_pos rfl]
    obtain ⟨a2, e3, g0, g1, g2, g3⟩ := f3_append h (by omega) hm hk
    rw [e3]
    simp only [Option.bind_some, if_neg z10]
    exact ⟨a2, rfl, g0, g1, g2, g3⟩
theorem f3_onceFull {a : xT} {k m : Nat} {l : List Nat} (h : zlA a k l) (hl : l.length ≤ 64) (hm : m < 4096) (hf : 64 < (zonce l m).length) : f_X3_appendOnce k (nI m) a = some (0, a) := by
  unfold f_X3_appendOnce
  rw [f3_holds h hm]
  simp only [Option.bind_some]
  unfold zonce at hf
  by_cases c : m ∈ l
  · rw [if_pos c] at hf; omega
  · have hd : bI (decide (m ∈ l)) = 0 := by simp [c, bI]
    rw [if_neg c, List.length_append, List.length_singleton] at hf
    rw [hd, if_pos rfl, f3_full (nI m) h (by omega)]
    rfl
theorem f7_becomes {a : xT} {k : Nat} {l : List Nat} (h : zlA a 6 l) (hl : l.length ≤ 64) (hk : k < 6) : ∃ a2, f_X7_becomesFresh (nI k) a = some (nI l.length, a2) ∧ zlA a2 k l ∧ (∀ j, j ≠ 23 + k → gI a2 j = gI a j) ∧ (∀ c j, c ≠ 30 + k → gA a2 c j = gA a c j) ∧ ∀ c j, c ≠ 37 + k → gB a2 c j = gB a c j := by
  obtain ⟨a2, e, g0, g1, g2, g3⟩ := f3_copy (k0 := k) h hl (by omega) (by decide)
  unfold f_X7_becomesFresh
  rw [if_pos (z_xin hk (by decide)), nI_clamp (by omega), e]
  simp only [Option.bind_some]
  rw [g1 (23 + 6) (by omega), h.1]
  exact ⟨a2, rfl, g0, g1, g2, g3⟩
