/-! alike on both sides; turning keeps it -/
theorem zrl_bit (m : Nat) : ∀ r k acc j, (zrl m r k acc).testBit j = if j < r then m.testBit (k + r - 1 - j) else acc.testBit (j - r)
  | 0, k, acc, j => by simp [zrl]
  | r + 1, k, acc, j => by
    rw [zrl, zrl_bit m r (k + 1) _ j]
    by_cases h1 : j < r
    · rw [if_pos h1, if_pos (by omega)]
      congr 1; omega
    · rw [if_neg h1]
      by_cases h2 : j = r
      · subst h2
        rw [if_pos (by omega), Nat.sub_self]
        have : k + (j + 1) - 1 - j = k := by omega
        rw [this, Nat.testBit_zero]
        have h3 : (2 * acc + (m >>> k) % 2) % 2 = (m >>> k) % 2 := by omega
        rw [h3, Nat.testBit, Nat.and_comm, Nat.and_one_is_mod]
        have h4 : (m >>> k) % 2 < 2 := Nat.mod_lt _ (by decide)
        rcases (show (m >>> k) % 2 = 0 ∨ (m >>> k) % 2 = 1 by omega) with e | e <;> rw [e] <;> decide
      · rw [if_neg (by omega)]
        obtain ⟨i, hi⟩ : ∃ i, j - r = i + 1 := ⟨j - r - 1, by omega⟩
        rw [hi, show j - (r + 1) = i by omega, Nat.testBit_succ]
        congr 1; omega
theorem zrev_bit (n m j : Nat) : (zrev n m).testBit j = (decide (j < n) && m.testBit (n - 1 - j)) := by
  unfold zrev
  rw [zrl_bit]
  by_cases h : j < n
  · rw [if_pos h]; simp [h]
  · rw [if_neg h]; simp [h]
theorem znd_bit (m s j : Nat) : (znd m s).testBit j = (m.testBit j && !s.testBit j) := by
  unfold znd
  rw [Nat.testBit_xor, Nat.testBit_and]
  cases m.testBit j <;> cases s.testBit j <;> rfl
theorem zrev_nd (n m s : Nat) : znd (zrev n m) (zrev n s) = zrev n (znd m s) := by
  apply Nat.eq_of_testBit_eq
  intro j
  rw [znd_bit, zrev_bit, zrev_bit, zrev_bit, znd_bit]
  cases decide (j < n) <;> simp
theorem zrev_rev {n m : Nat} (h : m < 2 ^ n) : zrev n (zrev n m) = m := by
  apply Nat.eq_of_testBit_eq
  intro j
  rw [zrev_bit, zrev_bit]
  by_cases hj : j < n
  · have e : n - 1 - (n - 1 - j) = j := by omega
    rw [e]
    simp [hj]
    omega
  · have : m.testBit j = false := Nat.testBit_lt_two_pow (Nat.lt_of_lt_of_le h (Nat.pow_le_pow_right (by decide) (by omega)))
    simp [hj, this]
theorem z_rpc : ∀ n, n < 13 → ∀ i, i < 64 → ∀ j, j < 64 → 64 * i + j < 2 ^ n → zpc (zrev n (64 * i + j)) = zpc (64 * i + j) := by decide +kernel
theorem zpc_rev {n m : Nat} (hn : n ≤ 12) (h : m < 2 ^ n) : zpc (zrev n m) = zpc m := by
  have hp := z_pow n (by omega)
  exact z_64 (P := fun x => x < 2 ^ n → zpc (zrev n x) = zpc x) (z_rpc n (by omega)) m (by omega) h
theorem znear_rr {n f m k : Nat} (hn : n ≤ 12) (hm : m < 2 ^ n) (hk : k < 2 ^ n) : znear f (zrev n m) (zrev n k) = znear f m k := by
  unfold znear
  rw [zrev_nd, zrev_nd, zpc_rev hn (znd_lt hm), zpc_rev hn (znd_lt hk)]
theorem znear_mr {n f m k : Nat} (hn : n ≤ 12) (hm : m < 2 ^ n) (hk : k < 2 ^ n) : znear f m (zrev n k) = znear f (zrev n m) k := by
  have := znear_rr (f := f) hn (zrev_lt n m) hk
  rw [zrev_rev hm] at this
  exact this
theorem f1_near {a : xT} {n kd t d m k : Nat} (h : zis a n kd t d) (hb : zbd n kd t d) (hk : kd ≠ 0) (hm : m < 4096) (hs : k < 4096) : f_X1_near (nI m) (nI k) a = some (bI (znear (zfar kd t d) m k)) := by
  have hx := f1_extra h hb hk
  obtain ⟨-, -, h3, h4, h5⟩ := hb
  have he : zex kd d ≤ 4 := by unfold zex; split <;> omega
  have hfe : zfar kd t d = t + zex kd d := rfl
  unfold f_X1_near znear
  rw [znd_and, znd_and, z_bc _ (znd_12 hm), z_bc _ (znd_12 hs), hx, h.2.2.1]
  simp only [Option.bind_some]
  rw [nI_add, ← hfe]
  have p1 := zpc_le (znd m k)
  have p2 := zpc_le (znd k m)
  have hf : zfar kd t d ≤ 8 := by omega
  by_cases c1 : zpc (znd m k) ≤ zfar kd t d
  · rw [if_neg (by rw [nI_lt_iff (by omega) (by omega)]; exact fun z => z c1)]
    by_cases c2 : zpc (znd k m) ≤ zfar kd t d
    · rw [if_neg (by rw [nI_lt_iff (by omega) (by omega)]; exact fun z => z c2)]; simp [c1, c2, bI]
    · rw [if_pos (by rw [nI_lt_iff (by omega) (by omega)]; exact c2)]; simp [c1, c2, bI]
  · rw [if_pos (by rw [nI_lt_iff (by omega) (by omega)]; exact c1)]; simp [c1, bI]
theorem f8_meet {b : xT} {n kd t d m k N : Nat} (h : zis b n kd t d) (hb : zbd n kd t d) (hN : 20 ≤ N) (hm : m < 4096) (hs : k < 4096) : f_X8_meet N (nI m) (nI k) b = some (bI (znear (zfar kd t d) m k)) := by
  obtain ⟨-, -, h3, h4, h5⟩ := hb
  have he : zex kd d ≤ 4 := by unfold zex; split <;> omega
  have hfe : zfar kd t d = t + zex kd d := rfl
  have key : (if (2 : Int32) ≤ nI kd then nI t + nI d else nI t + 0) = nI (zfar kd t d) := by
    by_cases c : kd < 2
    · rw [if_neg (show ¬ ((2 : Int32) ≤ nI kd) from nI_ge (b := 2) c (by decide)), hfe, show zex kd d = 0 from if_pos c, show (0 : Int32) = nI 0 from rfl, nI_add]
    · rw [if_pos (show ((2 : Int32) ≤ nI kd) from nI_le (a := 2) (by omega) (by omega)), hfe, show zex kd d = d from if_neg c, nI_add]
  unfold f_X8_meet znear
  rw [znd_and, znd_and, z_b8 (by omega) (znd_12 hm), z_b8 (by omega) (znd_12 hs), h.2.2.1, h.2.1, h.2.2.2]
  simp only [Option.bind_some]
  have p1 := zpc_le (znd m k)
  have p2 := zpc_le (znd k m)
  have hf : zfar kd t d ≤ 8 := by omega
  have fin : (if nI (zfar kd t d) < nI (zpc (znd m k)) then some (0 : Int32) else if nI (zfar kd t d) < nI (zpc (znd k m)) then some 0 else some 1) = some (bI (decide (zpc (znd m k) ≤ zfar kd t d) && decide (zpc (znd k m) ≤ zfar kd t d))) := by
    by_cases c1 : zpc (znd m k) ≤ zfar kd t d
    · rw [if_neg (by rw [nI_lt_iff (by omega) (by omega)]; exact fun z => z c1)]
      by_cases c2 : zpc (znd k m) ≤ zfar kd t d
      · rw [if_neg (by rw [nI_lt_iff (by omega) (by omega)]; exact fun z => z c2)]; simp [c1, c2, bI]
      · rw [if_pos (by rw [nI_lt_iff (by omega) (by omega)]; exact c2)]; simp [c1, c2, bI]
    · rw [if_pos (by rw [nI_lt_iff (by omega) (by omega)]; exact c1)]; simp [c1, bI]
  by_cases c : (2 : Int32) ≤ nI kd
  · rw [if_pos c] at key
    rw [if_pos c, key]
    exact fin
  · rw [if_neg c] at key
    rw [if_neg c, key]
    exact fin
theorem f1_alike {a : xT} {n kd t d m k : Nat} (h : zis a n kd t d) (hb : zbd n kd t d) (hm : m < 4096) (hk : k < 4096) : f_X1_alike (nI m) (nI (zrev n m)) (nI k) a = some (bI (zalike n kd t d m k)) := by
  obtain ⟨h1, h2, h3, h4, h5⟩ := id hb
  have hp := z_pow n (by omega)
  have hr := zrev_lt n m
  unfold f_X1_alike zalike
  rw [h.2.1, h.2.2.1]
  by_cases c0 : kd = 0
  · subst c0
    have hx : m ^^^ k < 4096 := Nat.xor_lt_two_pow (n := 12) hm hk
    rw [if_pos (show nI 0 = (0 : Int32) from rfl), if_pos rfl, zI_xor, z_bc _ hx]
    simp only [Option.bind_some]
    have p1 := zpc_le (m ^^^ k)
    by_cases c1 : zpc (m ^^^ k) ≤ t
    · rw [if_neg (by rw [nI_lt_iff (by omega) (by omega)]; exact fun z => z c1)]; simp [c1, bI]
    · rw [if_pos (by rw [nI_lt_iff (by omega) (by omega)]; exact c1)]; simp [c1, bI]
  · rw [if_neg (fun z => c0 ((nI_eq0 (by omega)).mp z)), if_neg c0, f1_near h hb c0 hm hk, f1_near h hb c0 (by omega) hk]
    simp only [Option.bind_some, bI_ne]
    by_cases c2 : kd = 3
    · subst c2
      rw [if_pos (show nI 3 = (3 : Int32) from rfl)]
      cases znear (zfar 3 t d) m k <;> cases znear (zfar 3 t d) (zrev n m) k <;> rfl
    · rw [if_neg (show ¬ nI kd = 3 from fun z => c2 ((nI_eq3 (by omega)).mp z))]
      simp only [c2, decide_false, Bool.false_and, Bool.or_false]
      cases znear (zfar kd t d) m k <;> rfl
theorem f8_alike {b : xT} {n kd t d m k N : Nat} (h : zis b n kd t d) (hb : zbd n kd t d) (hN : 20 ≤ N) (hm : m < 2 ^ n) (hk : k < 2 ^ n) : f_X8_areAlike N (nI m) (nI k) b = some (bI (zalike n kd t d m k)) := by
  obtain ⟨h1, h2, h3, h4, h5⟩ := id hb
  have hp := z_pow n (by omega)
  have hr := zrev_lt n m
  have hr2 := zrev_lt n k
  unfold f_X8_areAlike zalike
  rw [h.2.1, h.2.2.1]
  by_cases c0 : kd = 0
  · subst c0
    have hx : m ^^^ k < 4096 := Nat.xor_lt_two_pow (n := 12) (by omega) (by omega)
    rw [if_pos (show nI 0 = (0 : Int32) from rfl), if_pos rfl, zI_xor, z_b8 (by omega) hx]
    simp only [Option.bind_some]
    have p1 := zpc_le (m ^^^ k)
    by_cases c1 : zpc (m ^^^ k) ≤ t
    · rw [if_neg (by rw [nI_lt_iff (by omega) (by omega)]; exact fun z => z c1)]; simp [c1, bI]
    · rw [if_pos (by rw [nI_lt_iff (by omega) (by omega)]; exact c1)]; simp [c1, bI]
  · rw [if_neg (fun z => c0 ((nI_eq0 (by omega)).mp z)), if_neg c0, f8_meet h hb hN (by omega) (by omega), f8_trn h.1 h2 (by omega) hN, f8_trn h.1 h2 (by omega) hN]
    simp only [Option.bind_some]
    rw [f8_meet h hb hN (by omega) (by omega), f8_meet h hb hN (by omega) (by omega), f8_meet h hb hN (by omega) (by omega), znear_mr h2 hm hk, znear_rr h2 hm hk]
    simp only [Option.bind_some, bI_ne]
    by_cases c2 : kd = 3
    · subst c2
      rw [if_pos (show nI 3 = (3 : Int32) from rfl)]
      cases znear (zfar 3 t d) m k <;> cases znear (zfar 3 t d) (zrev n m) k <;> rfl
    · rw [if_neg (show ¬ nI kd = 3 from fun z => c2 ((nI_eq3 (by omega)).mp z))]
      simp only [c2, decide_false, Bool.false_and, Bool.or_false]
      cases znear (zfar kd t d) m k <;> rfl
