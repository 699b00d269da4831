/-! the least that both may be seen as: the class's way from the highest place -/
theorem zpc_fl {n x : Nat} (hn : n ≤ 12) (hx : x < 2 ^ n) : zpc x = zfl (fun j => x.testBit j) 0 n := by
  unfold zpc
  rw [List.range_eq_range']
  show zfl (fun j => x.testBit j) 0 12 = _
  rw [show 12 = n + (12 - n) by omega, zfl_add, zfl_none (12 - n) (0 + n) (fun t _ => Nat.testBit_lt_two_pow (Nat.lt_of_lt_of_le hx (Nat.pow_le_pow_right (by decide) (by omega)))), Nat.add_zero]
theorem zfl_or {p q r : Nat → Bool} : ∀ m i, (∀ t, p t = true → q t = true ∨ r t = true) → zfl p i m ≤ zfl q i m + zfl r i m
  | 0, _, _ => Nat.le_refl _
  | m + 1, i, h => by
    rw [zfl_s, zfl_s, zfl_s]
    have h1 := zfl_or m (i + 1) h
    have h2 := h i
    by_cases c : p i = true
    · rcases h2 c with z | z
      · rw [if_pos c, if_pos z]; omega
      · rw [if_pos c, if_pos z]; omega
    · rw [if_neg c]; omega
def zxn (m s : Nat) (j : Nat) : Bool := m.testBit j && !s.testBit j
/-- what is decided from place q on can still end well -/
def zfe (n t e m k s q : Nat) : Prop := zfl (zxn m s) q (n - q) ≤ t ∧ zfl (zxn k s) q (n - q) ≤ t ∧ zfl (zxn s m) q (n - q) ≤ e ∧ zfl (zxn s k) q (n - q) ≤ e ∧ zfl (zxn m k) 0 q + zfl (zxn m s) q (n - q) + zfl (zxn s k) q (n - q) ≤ t + e ∧ zfl (zxn k m) 0 q + zfl (zxn k s) q (n - q) + zfl (zxn s m) q (n - q) ≤ t + e
def zvl (n t e m k s : Nat) : Prop := zfl (zxn m s) 0 n ≤ t ∧ zfl (zxn s m) 0 n ≤ e ∧ zfl (zxn k s) 0 n ≤ t ∧ zfl (zxn s k) 0 n ≤ e
theorem zfl_split (p : Nat → Bool) {n q : Nat} (h : q ≤ n) : zfl p 0 n = zfl p 0 q + zfl p q (n - q) := by
  have := zfl_add p q 0 (n - q)
  rw [show q + (n - q) = n by omega, Nat.zero_add] at this
  exact this
theorem zfl_ext {p q : Nat → Bool} (i r : Nat) (h : ∀ t, i ≤ t → t < i + r → p t = q t) : zfl p i r = zfl q i r := zfl_eq r i i (fun t ht => h (i + t) (by omega) (by omega))
/-- necessity -/
theorem zfe_of {n t e m k s s2 q : Nat} (hq : q ≤ n) (hv : zvl n t e m k s2) (hs : ∀ j, q ≤ j → j < n → s.testBit j = s2.testBit j) : zfe n t e m k s q := by
  obtain ⟨v1, v2, v3, v4⟩ := hv
  rw [zfl_split _ hq] at v1 v2 v3 v4
  have e1 : zfl (zxn m s) q (n - q) = zfl (zxn m s2) q (n - q) := zfl_ext _ _ (fun j h1 h2 => by unfold zxn; rw [hs j h1 (by omega)])
  have e2 : zfl (zxn k s) q (n - q) = zfl (zxn k s2) q (n - q) := zfl_ext _ _ (fun j h1 h2 => by unfold zxn; rw [hs j h1 (by omega)])
  have e3 : zfl (zxn s m) q (n - q) = zfl (zxn s2 m) q (n - q) := zfl_ext _ _ (fun j h1 h2 => by unfold zxn; rw [hs j h1 (by omega)])
  have e4 : zfl (zxn s k) q (n - q) = zfl (zxn s2 k) q (n - q) := zfl_ext _ _ (fun j h1 h2 => by unfold zxn; rw [hs j h1 (by omega)])
  have o1 : zfl (zxn m k) 0 q ≤ zfl (zxn m s2) 0 q + zfl (zxn s2 k) 0 q := zfl_or q 0 (fun j => by
    unfold zxn
    cases m.testBit j <;> cases k.testBit j <;> cases s2.testBit j <;> simp)
  have o2 : zfl (zxn k m) 0 q ≤ zfl (zxn k s2) 0 q + zfl (zxn s2 m) 0 q := zfl_or q 0 (fun j => by
    unfold zxn
    cases m.testBit j <;> cases k.testBit j <;> cases s2.testBit j <;> simp)
  unfold zfe
  rw [e1, e2, e3, e4]
  omega
theorem zfe_near {n t e m k : Nat} : zfe n t e m k 0 n ↔ zfl (zxn m k) 0 n ≤ t + e ∧ zfl (zxn k m) 0 n ≤ t + e := by
  unfold zfe
  rw [Nat.sub_self, zfl_0, zfl_0, zfl_0, zfl_0]
  omega
theorem zfl_hd (p : Nat → Bool) {n q : Nat} (h : q < n) : zfl p q (n - q) = (if p q then 1 else 0) + zfl p (q + 1) (n - (q + 1)) := by
  rw [show n - q = (n - (q + 1)) + 1 by omega, zfl_s]
theorem zfl_tl (p : Nat → Bool) (q : Nat) : zfl p 0 (q + 1) = zfl p 0 q + (if p q then 1 else 0) := by
  rw [zfl_add p q 0 1, zfl_s, zfl_0, Nat.zero_add, Nat.add_zero]
theorem zor_at (s q : Nat) : (s ||| 2 ^ q).testBit q = true := by
  rw [Nat.testBit_or, Nat.testBit_two_pow_self]; simp
theorem zor_ne {s q j : Nat} (h : j ≠ q) : (s ||| 2 ^ q).testBit j = s.testBit j := by
  rw [Nat.testBit_or, Nat.testBit_two_pow_of_ne (Ne.symm h)]; simp
/-- if a place can't stay empty, it may be filled -/
theorem zfe_fill {n t e m k s q : Nat} (hq : q < n) (hs : s.testBit q = false) (h1 : zfe n t e m k s (q + 1)) (h2 : ¬ zfe n t e m k s q) : zfe n t e m k (s ||| 2 ^ q) q := by
  have b1 : zfl (zxn m (s ||| 2 ^ q)) (q + 1) (n - (q + 1)) = zfl (zxn m s) (q + 1) (n - (q + 1)) := zfl_ext _ _ (fun j h1 h2 => by unfold zxn; rw [zor_ne (by omega)])
  have b2 : zfl (zxn k (s ||| 2 ^ q)) (q + 1) (n - (q + 1)) = zfl (zxn k s) (q + 1) (n - (q + 1)) := zfl_ext _ _ (fun j h1 h2 => by unfold zxn; rw [zor_ne (by omega)])
  have b3 : zfl (zxn (s ||| 2 ^ q) m) (q + 1) (n - (q + 1)) = zfl (zxn s m) (q + 1) (n - (q + 1)) := zfl_ext _ _ (fun j h1 h2 => by unfold zxn; rw [zor_ne (by omega)])
  have b4 : zfl (zxn (s ||| 2 ^ q) k) (q + 1) (n - (q + 1)) = zfl (zxn s k) (q + 1) (n - (q + 1)) := zfl_ext _ _ (fun j h1 h2 => by unfold zxn; rw [zor_ne (by omega)])
  unfold zfe at *
  rw [zfl_hd (zxn m s) hq, zfl_hd (zxn k s) hq, zfl_hd (zxn s m) hq, zfl_hd (zxn s k) hq] at h2
  rw [zfl_hd (zxn m (s ||| 2 ^ q)) hq, zfl_hd (zxn k (s ||| 2 ^ q)) hq, zfl_hd (zxn (s ||| 2 ^ q) m) hq, zfl_hd (zxn (s ||| 2 ^ q) k) hq, b1, b2, b3, b4]
  rw [zfl_tl (zxn m k), zfl_tl (zxn k m)] at h1
  have x1 : zxn m s q = m.testBit q := by unfold zxn; rw [hs]; simp
  have x2 : zxn k s q = k.testBit q := by unfold zxn; rw [hs]; simp
  have x3 : zxn s m q = false := by unfold zxn; rw [hs]; simp
  have x4 : zxn s k q = false := by unfold zxn; rw [hs]; simp
  have y1 : zxn m (s ||| 2 ^ q) q = false := by unfold zxn; rw [zor_at]; simp
  have y2 : zxn k (s ||| 2 ^ q) q = false := by unfold zxn; rw [zor_at]; simp
  have y3 : zxn (s ||| 2 ^ q) m q = !m.testBit q := by unfold zxn; rw [zor_at]; simp
  have y4 : zxn (s ||| 2 ^ q) k q = !k.testBit q := by unfold zxn; rw [zor_at]; simp
  have z1 : zxn m k q = (m.testBit q && !k.testBit q) := rfl
  have z2 : zxn k m q = (k.testBit q && !m.testBit q) := rfl
  rw [x1, x2, x3, x4] at h2
  rw [y1, y2, y3, y4]
  rw [z1, z2] at h1
  cases hm : m.testBit q <;> cases hk : k.testBit q <;> simp only [hm, hk, Bool.not_true, Bool.not_false, Bool.and_true, Bool.and_false, Bool.true_and, Bool.false_and, if_true, if_false, Bool.false_eq_true] at h1 h2 ⊢ <;> omega
/-! the machine's words for it -/
def zdc (n q : Nat) : Nat := (2 ^ (n - q) - 1) <<< q
theorem zdc_bit (n q j : Nat) : (zdc n q).testBit j = (decide (q ≤ j) && decide (j < n)) := by
  unfold zdc
  rw [Nat.testBit_shiftLeft, Nat.testBit_two_pow_sub_one]
  by_cases h : q ≤ j
  · have : (j - q < n - q) ↔ j < n := by omega
    simp [h, this]
  · simp [h]
theorem zdc_lt {n q : Nat} : zdc n q < 2 ^ n := by
  apply Nat.lt_pow_two_of_testBit
  intro j hj
  rw [zdc_bit, decide_eq_false (show ¬ j < n by omega), Bool.and_false]
theorem zdc_s {n q : Nat} (h : q < n) : zdc n (q + 1) ||| 2 ^ q = zdc n q := by
  apply Nat.eq_of_testBit_eq
  intro j
  rw [Nat.testBit_or, zdc_bit, zdc_bit, Nat.testBit_two_pow]
  by_cases e : j = q
  · subst e; simp [h]
  · have e2 : (q + 1 ≤ j) ↔ (q ≤ j) := by omega
    have e3 : ¬ q = j := fun z => e z.symm
    simp [e2, e3]
theorem zpc_rng {n q x : Nat} {p : Nat → Bool} (hn : n ≤ 12) (hx : x < 2 ^ n) (h1 : ∀ j, j < q → x.testBit j = false) (hq : q ≤ n) (h2 : ∀ j, q ≤ j → j < n → x.testBit j = p j) : zpc x = zfl p q (n - q) := by
  rw [zpc_fl hn hx, zfl_split _ hq, zfl_none q 0 (fun t ht => by rw [Nat.zero_add]; exact h1 t ht), Nat.zero_add]
  exact zfl_ext _ _ (fun j a b => h2 j a (by omega))
theorem zpc_low {n q x : Nat} {p : Nat → Bool} (hn : n ≤ 12) (hx : x < 2 ^ n) (hq : q ≤ n) (h1 : ∀ j, j < q → x.testBit j = p j) (h2 : ∀ j, q ≤ j → x.testBit j = false) : zpc x = zfl p 0 q := by
  rw [zpc_fl hn hx, zfl_split _ hq, zfl_none (n - q) q (fun t ht => h2 _ (by omega)), Nat.add_zero]
  exact zfl_ext _ _ (fun j a b => h1 j (by omega))
theorem z_neg {t x : Nat} (ht : t < 2 ^ 30) (hx : x < 2 ^ 30) : (nI t - nI x < 0) ↔ t < x := by
  rw [Int32.lt_iff_toInt_lt, pk_sub_toInt ht hx, show (0 : Int32).toInt = 0 from rfl]
  omega
theorem f1_canEnd {a : xT} {n kd t d m k s q : Nat} (h : zis a n kd t d) (hb : zbd n kd t d) (hkd : kd ≠ 0) (hm : m < 2 ^ n) (hk : k < 2 ^ n) (hs : s < 2 ^ n) (hq : q ≤ n) (hsq : ∀ j, j < q → s.testBit j = false) : (zfe n t (zex kd d) m k s q ∧ f_X1_canEnd (nI m) (nI k) (nI s) (nI (zdc n q)) a = some 1) ∨ (¬ zfe n t (zex kd d) m k s q ∧ f_X1_canEnd (nI m) (nI k) (nI s) (nI (zdc n q)) a = some 0) := by
  have hx := f1_extra h hb hkd
  have hn := hb.2.1
  have hp := z_pow n (by omega)
  have ht4 := hb.2.2.2.1
  have he4 : zex kd d ≤ 4 := by have := hb.2.2.2.2; unfold zex; split <;> omega
  have p1 : zpc (znd (m &&& zdc n q) s) = zfl (zxn m s) q (n - q) := zpc_rng hn (znd_lt (Nat.lt_of_le_of_lt Nat.and_le_left hm)) (fun j hj => by rw [znd_bit, Nat.testBit_and, zdc_bit, decide_eq_false (show ¬ q ≤ j by omega)]; simp) hq (fun j h1 h2 => by rw [znd_bit, Nat.testBit_and, zdc_bit, decide_eq_true h1, decide_eq_true h2]; simp [zxn])
  have p2 : zpc (znd (k &&& zdc n q) s) = zfl (zxn k s) q (n - q) := zpc_rng hn (znd_lt (Nat.lt_of_le_of_lt Nat.and_le_left hk)) (fun j hj => by rw [znd_bit, Nat.testBit_and, zdc_bit, decide_eq_false (show ¬ q ≤ j by omega)]; simp) hq (fun j h1 h2 => by rw [znd_bit, Nat.testBit_and, zdc_bit, decide_eq_true h1, decide_eq_true h2]; simp [zxn])
  have p3 : zpc (znd s m) = zfl (zxn s m) q (n - q) := zpc_rng hn (znd_lt hs) (fun j hj => by rw [znd_bit, hsq j hj]; rfl) hq (fun j h1 h2 => by rw [znd_bit]; rfl)
  have p4 : zpc (znd s k) = zfl (zxn s k) q (n - q) := zpc_rng hn (znd_lt hs) (fun j hj => by rw [znd_bit, hsq j hj]; rfl) hq (fun j h1 h2 => by rw [znd_bit]; rfl)
  have o1 : ∀ x j, x < 2 ^ n → n ≤ j → x.testBit j = false := fun x j h1 h2 => Nat.testBit_lt_two_pow (Nat.lt_of_lt_of_le h1 (Nat.pow_le_pow_right (by decide) h2))
  have p5 : zpc (znd (znd m k) (zdc n q)) = zfl (zxn m k) 0 q := zpc_low hn (znd_lt (znd_lt hm)) hq (fun j hj => by rw [znd_bit, znd_bit, zdc_bit, decide_eq_false (show ¬ q ≤ j by omega)]; simp [zxn]) (fun j hj => by
    rw [znd_bit, znd_bit, zdc_bit, decide_eq_true hj]
    by_cases c : j < n
    · simp [c]
    · rw [o1 m j hm (by omega)]; simp)
  have p6 : zpc (znd (znd k m) (zdc n q)) = zfl (zxn k m) 0 q := zpc_low hn (znd_lt (znd_lt hk)) hq (fun j hj => by rw [znd_bit, znd_bit, zdc_bit, decide_eq_false (show ¬ q ≤ j by omega)]; simp [zxn]) (fun j hj => by
    rw [znd_bit, znd_bit, zdc_bit, decide_eq_true hj]
    by_cases c : j < n
    · simp [c]
    · rw [o1 k j hk (by omega)]; simp)
  have l1 : ∀ x, x < 2 ^ n → x < 4096 := fun x hx => by omega
  have m1 := l1 _ (znd_lt (s := s) (Nat.lt_of_le_of_lt (Nat.and_le_left (m := zdc n q)) hm))
  have m2 := l1 _ (znd_lt (s := s) (Nat.lt_of_le_of_lt (Nat.and_le_left (m := zdc n q)) hk))
  have m3 := l1 _ (znd_lt (s := m) hs)
  have m4 := l1 _ (znd_lt (s := k) hs)
  have m5 := l1 _ (znd_lt (s := zdc n q) (znd_lt (s := k) hm))
  have m6 := l1 _ (znd_lt (s := zdc n q) (znd_lt (s := m) hk))
  have q1 := zpc_le (znd (m &&& zdc n q) s)
  have q2 := zpc_le (znd (k &&& zdc n q) s)
  have q3 := zpc_le (znd s m)
  have q4 := zpc_le (znd s k)
  have q5 := zpc_le (znd (znd m k) (zdc n q))
  have q6 := zpc_le (znd (znd k m) (zdc n q))
  unfold f_X1_canEnd
  rw [zI_and, zI_and, znd_and, znd_and, znd_and, znd_and, znd_and, znd_and, znd_and, znd_and, z_bc _ m1, z_bc _ m2, z_bc _ m3, z_bc _ m4, z_bc _ m5, z_bc _ m6, hx, h.2.2.1]
  rw [p1] at q1
  rw [p2] at q2
  rw [p3] at q3
  rw [p4] at q4
  rw [p5] at q5
  rw [p6] at q6
  simp only [z_sbind]
  rw [p1, p2, p3, p4, p5, p6]
  unfold zfe
  by_cases c1 : zfl (zxn m s) q (n - q) ≤ t
  · rw [if_neg (fun z => by rw [z_neg (by omega) (by omega)] at z; omega)]
    by_cases c2 : zfl (zxn k s) q (n - q) ≤ t
    · rw [if_neg (fun z => by rw [z_neg (by omega) (by omega)] at z; omega)]
      by_cases c3 : zfl (zxn s m) q (n - q) ≤ zex kd d
      · rw [if_neg (fun z => by rw [z_neg (by omega) (by omega)] at z; omega)]
        by_cases c4 : zfl (zxn s k) q (n - q) ≤ zex kd d
        · rw [if_neg (fun z => by rw [z_neg (by omega) (by omega)] at z; omega), pk_sub c1, pk_sub c2, pk_sub c3, pk_sub c4, nI_add, nI_add]
          by_cases c5 : zfl (zxn m k) 0 q ≤ t - zfl (zxn m s) q (n - q) + (zex kd d - zfl (zxn s k) q (n - q))
          · rw [if_neg (nI_nlt c5 (by omega))]
            by_cases c6 : zfl (zxn k m) 0 q ≤ t - zfl (zxn k s) q (n - q) + (zex kd d - zfl (zxn s m) q (n - q))
            · rw [if_neg (nI_nlt c6 (by omega))]
              exact Or.inl ⟨⟨c1, c2, c3, c4, by omega, by omega⟩, rfl⟩
            · rw [if_pos (nI_lt (by omega) (by omega))]
              exact Or.inr ⟨fun z => by omega, rfl⟩
          · rw [if_pos (nI_lt (by omega) (by omega))]
            exact Or.inr ⟨fun z => by omega, rfl⟩
        · rw [if_pos ((z_neg (by omega) (by omega)).mpr (by omega))]
          exact Or.inr ⟨fun z => c4 z.2.2.2.1, rfl⟩
      · rw [if_pos ((z_neg (by omega) (by omega)).mpr (by omega))]
        exact Or.inr ⟨fun z => c3 z.2.2.1, rfl⟩
    · rw [if_pos ((z_neg (by omega) (by omega)).mpr (by omega))]
      exact Or.inr ⟨fun z => c2 z.2.1, rfl⟩
  · rw [if_pos ((z_neg (by omega) (by omega)).mpr (by omega))]
    exact Or.inr ⟨fun z => c1 z.1, rfl⟩
