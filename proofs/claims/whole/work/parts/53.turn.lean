/-! sets of places, turning -/
theorem z_all : ∀ n, n < 13 → ((1 : Int32) <<< (nI n &&& 31)) - 1 = nI (2 ^ n - 1) := by decide +kernel
theorem z_one : ∀ n, n < 13 → ((1 : Int32) <<< (nI n &&& 31)) = nI (2 ^ n) := by decide +kernel
theorem z_pow : ∀ n, n < 13 → 2 ^ n ≤ 4096 ∧ 0 < 2 ^ n := by decide +kernel
theorem f1_all {a : xT} {n : Nat} (h : gI a 0 = nI n) (hn : n ≤ 12) : f_X1_all a = some (nI (2 ^ n - 1)) := by
  unfold f_X1_all
  rw [h, z_all n (by omega)]
theorem f1_isSet {a : xT} {n : Nat} (v : Int32) (h : gI a 0 = nI n) (hn : n ≤ 12) : f_X1_isSet v a = some (if v < 0 ∨ nI (2 ^ n - 1) < v then 0 else 1) := by
  unfold f_X1_isSet
  rw [f1_all h hn]
  simp only [Option.bind_some]
  by_cases h1 : v < 0
  · simp [h1]
  · by_cases h2 : nI (2 ^ n - 1) < v
    · simp [h1, h2]
    · simp [h1, h2]
theorem f8_isMark {b : xT} {n : Nat} (v : Int32) (h : gI b 0 = nI n) (hn : n ≤ 12) : f_X8_isMark v b = some (if v < 0 ∨ nI (2 ^ n - 1) < v then 0 else 1) := by
  unfold f_X8_isMark
  rw [h, z_all n (by omega)]
  have w := f8_in v 0 (nI (2 ^ n - 1))
  rw [show (0 : Int32).toInt64 = 0 from rfl] at w
  rw [w]
  simp only [Option.bind_some]
  by_cases h1 : v < 0 ∨ nI (2 ^ n - 1) < v
  · rw [if_pos h1]; rfl
  · rw [if_neg h1]; rfl
theorem z_setOf {v : Int32} {n : Nat} (hn : n ≤ 12) (h : ¬ (v < 0 ∨ nI (2 ^ n - 1) < v)) : ∃ m, m < 2 ^ n ∧ v = nI m := by
  have hp := z_pow n (by omega)
  obtain ⟨j, -, h2, h3⟩ := i32_rng (v := v) 0 (2 ^ n - 1) (fun z => h (Or.inl z)) (fun z => h (Or.inr z)) (by omega) (by decide)
  exact ⟨j, by omega, h3⟩
theorem z_setIs {m n : Nat} (hn : n ≤ 12) (h : m < 2 ^ n) : ¬ (nI m < 0 ∨ nI (2 ^ n - 1) < nI m) := by
  have hp := z_pow n (by omega)
  rintro (z | z)
  · exact nI_pos (by omega) z
  · exact nI_nlt (a := 2 ^ n - 1) (b := m) (by omega) (by omega) z
theorem f1_rev_loop {a : xT} {n m : Nat} (h : gI a 0 = nI n) (hn : n ≤ 12) (hm : m < 4096) : ∀ r k acc fuel, k + r = n → acc < 2 ^ k → r < fuel → f_X1_reversed_L4 (nI m) a fuel (nI acc) (nI k) = some (nI (zrl m r k acc)) := by
  intro r
  induction r with
  | zero =>
    intro k acc fuel hk ha hf
    obtain ⟨fu, rfl⟩ : ∃ fu, fuel = fu + 1 := ⟨fuel - 1, by omega⟩
    rw [f_X1_reversed_L4, h, if_pos (nI_le (by omega) (by omega))]
    rfl
  | succ r ih =>
    intro k acc fuel hk ha hf
    obtain ⟨fu, rfl⟩ : ∃ fu, fuel = fu + 1 := ⟨fuel - 1, by omega⟩
    have hp := z_pow k (by omega)
    rw [f_X1_reversed_L4, h, if_neg (nI_ge (by omega) (by omega))]
    simp only [Option.bind_some]
    have e1 : (nI acc <<< ((1 : Int32) &&& 31)) = nI (acc <<< 1) := zI_shl (k := 1) (by decide) (by omega)
    have e2 : (nI m >>> (nI k &&& 31)) &&& 1 = nI ((m >>> k) % 2) := by rw [zI_shr (by omega) (by omega), zI_and1]
    have e3 : nI (acc <<< 1) ||| nI ((m >>> k) % 2) = nI (2 * acc + (m >>> k) % 2) := by
      rw [zI_or]
      congr 1
      rw [Nat.shiftLeft_eq, Nat.mul_comm, Nat.pow_one]
      have := Nat.two_pow_add_eq_or_of_lt (i := 1) (b := (m >>> k) % 2) (by omega) acc
      rw [Nat.pow_one] at this
      exact this.symm
    rw [e1, e2, e3, nI_1]
    have hb : 2 * acc + (m >>> k) % 2 < 2 ^ (k + 1) := by rw [Nat.pow_succ]; omega
    exact ih (k + 1) _ fu (by omega) hb (by omega)
theorem f1_rev {a : xT} {n m N : Nat} (h : gI a 0 = nI n) (hn : n ≤ 12) (hm : m < 4096) (hN : 20 ≤ N) : f_X1_reversed N (nI m) a = some (nI (zrev n m)) := by
  unfold f_X1_reversed
  have := f1_rev_loop h hn hm n 0 0 N (by omega) (by decide) (by omega)
  rw [show (0 : Int32) = nI 0 from rfl]
  rw [this]
  rfl
def ztl (n m : Nat) : Nat → Nat → Nat → Nat
  | 0, _, acc => acc
  | r + 1, k, acc => ztl n m r (k + 1) (acc ||| (((m >>> k) % 2) <<< (n - 1 - k)))
theorem f8_trn_loop {b : xT} {n m : Nat} (h : gI b 0 = nI n) (hn : n ≤ 12) (hm : m < 4096) : ∀ r k acc fuel, k + r = n → acc < 2 ^ n → r < fuel → f_X8_turnedOf_L4 (nI m) b fuel (nI acc) (nI k) = some (nI (ztl n m r k acc)) := by
  intro r
  induction r with
  | zero =>
    intro k acc fuel hk ha hf
    obtain ⟨fu, rfl⟩ : ∃ fu, fuel = fu + 1 := ⟨fuel - 1, by omega⟩
    rw [f_X8_turnedOf_L4, h, if_pos (nI_le (by omega) (by omega))]
    rfl
  | succ r ih =>
    intro k acc fuel hk ha hf
    obtain ⟨fu, rfl⟩ : ∃ fu, fuel = fu + 1 := ⟨fuel - 1, by omega⟩
    have hp := z_pow n (by omega)
    rw [f_X8_turnedOf_L4, h, if_neg (nI_ge (by omega) (by omega))]
    simp only [Option.bind_some]
    have e2 : (nI m >>> (nI k &&& 31)) &&& 1 = nI ((m >>> k) % 2) := by rw [zI_shr (by omega) (by omega), zI_and1]
    have e4 : (nI n - 1) - nI k = nI (n - 1 - k) := by
      rw [show (1 : Int32) = nI 1 from rfl, pk_sub (by omega), pk_sub (by omega)]
    have hlt : ((m >>> k) % 2) <<< (n - 1 - k) < 2 ^ n := by
      rw [Nat.shiftLeft_eq]
      have h1 : (m >>> k) % 2 < 2 := Nat.mod_lt _ (by decide)
      have h2 : 2 * 2 ^ (n - 1 - k) ≤ 2 ^ n := by rw [Nat.mul_comm, ← Nat.pow_succ]; exact Nat.pow_le_pow_right (by decide) (by omega)
      have h3 : 0 < 2 ^ (n - 1 - k) := Nat.two_pow_pos _
      have h4 : (m >>> k) % 2 * 2 ^ (n - 1 - k) ≤ 1 * 2 ^ (n - 1 - k) := Nat.mul_le_mul_right _ (by omega)
      omega
    have e5 : nI ((m >>> k) % 2) <<< (nI (n - 1 - k) &&& 31) = nI (((m >>> k) % 2) <<< (n - 1 - k)) := zI_shl (by omega) (by rw [← Nat.shiftLeft_eq]; omega)
    rw [e2, e4, e5, zI_or, nI_1]
    exact ih (k + 1) _ fu (by omega) (Nat.or_lt_two_pow ha hlt) (by omega)
theorem z_trn : ∀ n, n < 13 → ∀ i, i < 64 → ∀ j, j < 64 → ztl n (64 * i + j) n 0 0 = zrev n (64 * i + j) := by decide +kernel
theorem f8_trn {b : xT} {n m N : Nat} (h : gI b 0 = nI n) (hn : n ≤ 12) (hm : m < 4096) (hN : 20 ≤ N) : f_X8_turnedOf N (nI m) b = some (nI (zrev n m)) := by
  unfold f_X8_turnedOf
  have := f8_trn_loop h hn hm n 0 0 N (by omega) (Nat.two_pow_pos n) (by omega)
  rw [show (0 : Int32) = nI 0 from rfl]
  rw [this]
  have e := z_64 (P := fun x => ztl n x n 0 0 = zrev n x) (z_trn n (by omega)) m hm
  rw [e]
  rfl
theorem zrl_lt (m : Nat) : ∀ r k acc, acc < 2 ^ k → zrl m r k acc < 2 ^ (k + r)
  | 0, k, acc, h => h
  | r + 1, k, acc, h => by
    have := zrl_lt m r (k + 1) (2 * acc + (m >>> k) % 2) (by rw [Nat.pow_succ]; omega)
    rw [show k + (r + 1) = k + 1 + r by omega]
    exact this
theorem zrev_lt (n m : Nat) : zrev n m < 2 ^ n := by
  have := zrl_lt m n 0 0 (by decide)
  rwa [Nat.zero_add] at this
theorem p_turned {N : Nat} (hN : 20 ≤ N) : xP_turned N zInv := by
  intro y a b hI
  obtain ⟨n, kd, t, d, hb, ha, hB, -⟩ := id hI
  unfold f_X7_turned f_X8_turned
  rw [f1_isSet y ha.1 hb.2.1, f8_isMark y hB.1 hb.2.1]
  simp only [Option.bind_some]
  by_cases c : y < 0 ∨ nI (2 ^ n - 1) < y
  · rw [if_pos c]
    exact ⟨_, rfl, rfl, hI⟩
  · rw [if_neg c]
    obtain ⟨m, hm, rfl⟩ := z_setOf hb.2.1 c
    have hp := z_pow n (by have := hb.2.1; omega)
    rw [f1_rev ha.1 hb.2.1 (by omega) hN, f8_trn hB.1 hb.2.1 (by omega) hN]
    exact ⟨_, rfl, rfl, hI⟩
