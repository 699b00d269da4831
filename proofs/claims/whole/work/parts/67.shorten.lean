/-! shorten -/
def zsh (p m : Nat) : Nat := (m &&& (2 ^ p - 1)) ||| ((m >>> (p + 1)) <<< p)
theorem zsh_lt {n p m : Nat} (h : m < 2 ^ n) : zsh p m < 2 ^ n := by
  refine Nat.or_lt_two_pow (Nat.lt_of_le_of_lt Nat.and_le_left h) ?_
  rw [Nat.shiftLeft_eq, Nat.shiftRight_eq_div_pow, Nat.pow_succ, ← Nat.div_div_eq_div_mul]
  have h1 : m / 2 ^ p / 2 * 2 ^ p ≤ m / 2 ^ p * 2 ^ p := Nat.mul_le_mul_right _ (Nat.div_le_self _ _)
  have h2 := Nat.div_mul_le_self m (2 ^ p)
  omega
theorem zsh_nd (p m : Nat) : (m &&& (2 ^ p - 1)) ||| znd (m >>> 1) (2 ^ p - 1) = zsh p m := by
  unfold zsh
  congr 1
  apply Nat.eq_of_testBit_eq
  intro j
  rw [znd_bit, Nat.testBit_two_pow_sub_one, Nat.testBit_shiftRight, Nat.testBit_shiftLeft, Nat.testBit_shiftRight]
  by_cases h : j < p
  · simp [h]; intro; omega
  · have e : p + 1 + (j - p) = 1 + j := by omega
    rw [e]
    simp [h]
    intro _; omega
theorem z_p1 {p : Nat} (hp : p < 12) : ((1 : Int32) <<< (nI p &&& 31)) - 1 = nI (2 ^ p - 1) := z_all p (by omega)
theorem z_c7 {p m : Nat} (hp : p < 12) (hm : m < 4096) : (nI m &&& nI (2 ^ p - 1)) ||| ((nI m >>> ((1 : Int32) &&& 31)) &&& (nI (2 ^ p - 1) ^^^ (-1))) = nI (zsh p m) := by
  have e1 : nI m >>> ((1 : Int32) &&& 31) = nI (m >>> 1) := zI_shr (k := 1) (by omega) (by decide)
  rw [e1, znd_and, zI_and, zI_or, zsh_nd]
theorem z_c8 {p m : Nat} (hp : p < 12) (hm : m < 4096) : (nI m &&& (((1 : Int32) <<< (nI p &&& 31)) - 1)) ||| ((nI m >>> ((nI p + 1) &&& 31)) <<< (nI p &&& 31)) = nI (zsh p m) := by
  rw [z_p1 hp, nI_1, zI_shr (by omega) (by omega), zI_shl (by omega) ?_, zI_and, zI_or]
  · rfl
  · have h1 : m >>> (p + 1) ≤ m := by rw [Nat.shiftRight_eq_div_pow]; exact Nat.div_le_self _ _
    have h2 := (z_pow p (by omega)).1
    calc m >>> (p + 1) * 2 ^ p ≤ 4096 * 4096 := Nat.mul_le_mul (by omega) h2
      _ < 2 ^ 32 := by decide
theorem f7_sh_loop {n kd t d k p N : Nat} {l : List Nat} (v1 : Int32) (hb : zbd n kd t d) (hw : zlw n l) (hk : k < 6) (hp12 : p < 12) : ∀ r i a fuel, zis a n kd t d → zlA a k l → zlA a 6 (zmp (zsh p) (l.take i)) → i + r = l.length → r < fuel → ∃ a2, f_X7_shorten_L47 v1 (nI k) (nI (2 ^ p - 1)) fuel (nI i) a = some a2 ∧ zlA a2 6 (zmp (zsh p) l) ∧ (∀ j, j ≠ 29 → gI a2 j = gI a j) ∧ (∀ c j, c ≠ 36 → gA a2 c j = gA a c j) ∧ ∀ c j, c ≠ 43 → gB a2 c j = gB a c j := by
  have hx6 := z_xin (n := 6) hk (by decide)
  have hl := hw.1
  have hn := hb.2.1
  have hp := z_pow n (by omega)
  intro r
  induction r with
  | zero =>
    intro i a fuel ha h1 h2 hi hf
    obtain ⟨fu, rfl⟩ : ∃ fu, fuel = fu + 1 := ⟨fuel - 1, by omega⟩
    rw [List.take_of_length_le (by omega)] at h2
    refine ⟨a, ?_, h2, fun _ _ => rfl, fun _ _ _ => rfl, fun _ _ _ => rfl⟩
    rw [f_X7_shorten_L47]
    simp only [if_pos hx6]
    rw [nI_clamp (by omega), h1.1, if_pos (nI_le (by omega) (by omega))]
  | succ r ih =>
    intro i a fuel ha h1 h2 hi hf
    obtain ⟨fu, rfl⟩ : ∃ fu, fuel = fu + 1 := ⟨fuel - 1, by omega⟩
    have hil : i < l.length := by omega
    have hx64 := z_xin (k := i) (n := 64) (by omega) (by decide)
    have hm := hw.2.2 (l.getD i 0) (by simp [hil])
    have hwt := zmp_w (g := zsh p) (n := n) hl (fun x hx => zsh_lt (hw.2.2 x hx)) i (by omega)
    have hr := zsh_lt (p := p) hm
    rw [f_X7_shorten_L47]
    simp only [if_pos hx6, if_pos hx64, Option.bind_some]
    rw [nI_clamp (by omega), nI_clamp (by omega), h1.1, if_neg (nI_ge (by omega) (by omega)), h1.2.1 i hil, z_c7 hp12 (by omega), nI_1]
    obtain ⟨a2, e, g0, g1, g2, g3⟩ := f3_once (m := zsh p (l.getD i 0)) h2 (by omega) (by omega) (by decide) (Nat.le_trans (zonce_len _ _) (by omega))
    rw [e]
    simp only [Option.bind_some]
    rw [← zmp_take hil] at g0
    obtain ⟨a3, e3, w0, w1, w2, w3⟩ := ih (i + 1) a2 fu (zis_keep ha (fun j hj => g1 j (by omega))) (zlA_keep h1 (g1 _ (by omega)) (fun j => g2 _ _ (by omega)) (fun j => g3 _ _ (by omega))) g0 (by omega) (by omega)
    exact ⟨a3, e3, w0, fun j hj => (w1 j hj).trans (g1 j hj), fun c j hc => (w2 c j hc).trans (g2 c j hc), fun c j hc => (w3 c j hc).trans (g3 c j hc)⟩
theorem f8_sh_loop {n kd t d k p N : Nat} {l : List Nat} (v1 : Int32) (hb : zbd n kd t d) (hw : zlw n l) (hk : k < 6) (hp12 : p < 12) (hN : 5000 ≤ N) : ∀ r i b fuel, zis b n kd t d → zlB b k l → zrow b (zmp (zsh p) (l.take i)) → i + r = l.length → r < fuel → ∃ b2, f_X8_shorten_L46 N v1 (nI k) (nI p) fuel (nI i) b = some b2 ∧ zrow b2 (zmp (zsh p) l) ∧ (∀ j, j ≠ 11 → gI b2 j = gI b j) ∧ ∀ c j, c ≠ 51 → gA b2 c j = gA b c j := by
  have hx6 := z_xin (n := 6) hk (by decide)
  have hl := hw.1
  have hn := hb.2.1
  have hp := z_pow n (by omega)
  intro r
  induction r with
  | zero =>
    intro i b fuel ha h1 h2 hi hf
    obtain ⟨fu, rfl⟩ : ∃ fu, fuel = fu + 1 := ⟨fuel - 1, by omega⟩
    rw [List.take_of_length_le (by omega)] at h2
    refine ⟨b, ?_, h2, fun _ _ => rfl, fun _ _ _ => rfl⟩
    rw [f_X8_shorten_L46]
    simp only [if_pos hx6]
    rw [nI_clamp (by omega), h1.1, if_pos (nI_le (by omega) (by omega))]
  | succ r ih =>
    intro i b fuel ha h1 h2 hi hf
    obtain ⟨fu, rfl⟩ : ∃ fu, fuel = fu + 1 := ⟨fuel - 1, by omega⟩
    have hil : i < l.length := by omega
    have hm := hw.2.2 (l.getD i 0) (by simp [hil])
    have hwt := zmp_w (g := zsh p) (n := n) hl (fun x hx => zsh_lt (hw.2.2 x hx)) i (by omega)
    have hr := zsh_lt (p := p) hm
    rw [f_X8_shorten_L46]
    simp only [if_pos hx6]
    rw [nI_clamp (by omega), h1.1, if_neg (nI_ge (by omega) (by omega)), f8_at h1 hk hil hl, nI_1 i]
    simp only [Option.bind_some]
    rw [z_c8 (m := l.getD i 0) hp12 (by omega)]
    obtain ⟨b2, e, g0, g1, g2⟩ := f8_come (m := zsh p (l.getD i 0)) h2 (Or.inl (by omega)) (by omega) (fun x hx => by have := hwt.2.2 x hx; omega) (by omega) hN
    rw [e]
    simp only [Option.bind_some]
    rw [← zmp_take hil] at g0
    obtain ⟨b3, e3, w0, w1, w2⟩ := ih (i + 1) b2 fu (zis_keep ha (fun j hj => g1 j (by omega))) (zlB_keep h1 (g2 _ _ (by decide)) (fun j => g2 _ _ (by decide))) g0 (by omega) (by omega)
    exact ⟨b3, e3, w0, fun j hj => (w1 j hj).trans (g1 j hj), fun c j hc => (w2 c j hc).trans (g2 c j hc)⟩
