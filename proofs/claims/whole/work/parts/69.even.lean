/-! even -/
theorem z_sbind {α β : Type} (x : α) (f : α → Option β) : (some x).bind f = f x := by simp
def zev (p m : Nat) : Nat := znd m (2 ^ p) ||| (((zpc (znd m (2 ^ p))) % 2) <<< p)
theorem zev_lt {n p m : Nat} (hp : p < n) (h : m < 2 ^ n) : zev p m < 2 ^ n := by
  refine Nat.or_lt_two_pow (znd_lt h) ?_
  rw [Nat.shiftLeft_eq]
  have h1 : zpc (znd m (2 ^ p)) % 2 ≤ 1 := by omega
  have h2 : zpc (znd m (2 ^ p)) % 2 * 2 ^ p ≤ 1 * 2 ^ p := Nat.mul_le_mul_right _ h1
  have h3 : 2 ^ p < 2 ^ n := Nat.pow_lt_pow_right (by decide) hp
  omega
theorem z_e7 {p m : Nat} (hp : p < 12) : nI (znd m (2 ^ p)) ||| ((nI (zpc (znd m (2 ^ p))) &&& 1) <<< (nI p &&& 31)) = nI (zev p m) := by
  have h2 := (z_pow p (by omega)).1
  rw [zI_and1, zI_shl (by omega) ?_, zI_or]
  · rfl
  · have h1 : zpc (znd m (2 ^ p)) % 2 ≤ 1 := by omega
    have h3 : zpc (znd m (2 ^ p)) % 2 * 2 ^ p ≤ 1 * 2 ^ p := Nat.mul_le_mul_right _ h1
    omega
theorem z_e8 {p m N : Nat} {b : xT} {α : Type} (hp : p < 12) (k : xT → Option α) : (if (nI (zpc (znd m (2 ^ p))) - nI (zpc (znd m (2 ^ p))) / 2 * 2) = 1 then (f_X8_come N (nI (znd m (2 ^ p)) ||| nI (2 ^ p)) b).bind k else (f_X8_come N (nI (znd m (2 ^ p))) b).bind k) = (f_X8_come N (nI (zev p m)) b).bind k := by
  have hz := zpc_le (znd m (2 ^ p))
  have e := pk_rem (a := zpc (znd m (2 ^ p))) (d := 2) (by omega) (by decide) (by decide)
  rw [show nI 2 = (2 : Int32) from rfl] at e
  rw [e]
  unfold zev
  rcases (show zpc (znd m (2 ^ p)) % 2 = 0 ∨ zpc (znd m (2 ^ p)) % 2 = 1 by omega) with q | q
  · rw [q, if_neg (by decide), Nat.zero_shiftLeft, Nat.or_zero]
  · rw [q, if_pos (show nI 1 = (1 : Int32) from rfl), zI_or, Nat.one_shiftLeft]
theorem f7_ev_loop {n kd t d k p : Nat} {l : List Nat} (v1 : Int32) (hb : zbd n kd t d) (hw : zlw n l) (hk : k < 6) (hpn : p < n) : ∀ r i a fuel, zis a n kd t d → zlA a k l → zlA a 6 (zmp (zev p) (l.take i)) → i + r = l.length → r < fuel → ∃ a2, f_X7_even_L40 v1 (nI k) (nI p) fuel (nI i) a = some a2 ∧ zlA a2 6 (zmp (zev p) l) ∧ (∀ j, j ≠ 29 → gI a2 j = gI a j) ∧ (∀ c j, c ≠ 36 → gA a2 c j = gA a c j) ∧ ∀ c j, c ≠ 43 → gB a2 c j = gB a c j := by
  have hx6 := z_xin (n := 6) hk (by decide)
  have hl := hw.1
  have hn := hb.2.1
  have hp := z_pow n (by omega)
  intro r
  induction r with
  | zero =>
    intro i a fuel ha h1 h2 hi hf
    obtain ⟨fu, rfl⟩ : ∃ fu, fuel = fu + 1 := ⟨fuel - 1, by omega⟩
    rw [List.take_of_length_le (by omega)] at h2
    refine ⟨a, ?_, h2, fun _ _ => rfl, fun _ _ _ => rfl, fun _ _ _ => rfl⟩
    rw [f_X7_even_L40]
    simp only [if_pos hx6]
    rw [nI_clamp (by omega), h1.1, if_pos (nI_le (by omega) (by omega))]
  | succ r ih =>
    intro i a fuel ha h1 h2 hi hf
    obtain ⟨fu, rfl⟩ : ∃ fu, fuel = fu + 1 := ⟨fuel - 1, by omega⟩
    have hil : i < l.length := by omega
    have hx64 := z_xin (k := i) (n := 64) (by omega) (by decide)
    have hm := hw.2.2 (l.getD i 0) (by simp [hil])
    have hwt := zmp_w (g := zev p) (n := n) hl (fun x hx => zev_lt hpn (hw.2.2 x hx)) i (by omega)
    have hr := zev_lt hpn hm
    have hzn : znd (l.getD i 0) (2 ^ p) < 4096 := znd_12 (by omega)
    rw [f_X7_even_L40]
    simp only [if_pos hx6, if_pos hx64]
    rw [nI_clamp (by omega), nI_clamp (by omega), h1.1, if_neg (nI_ge (by omega) (by omega)), h1.2.1 i hil, z_one p (by omega), znd_and, z_sbind, z_bc _ hzn, z_sbind]
    rw [z_e7 (m := l.getD i 0) (p := p) (by omega), nI_1]
    obtain ⟨a2, e, g0, g1, g2, g3⟩ := f3_once (m := zev p (l.getD i 0)) h2 (by omega) (by omega) (by decide) (Nat.le_trans (zonce_len _ _) (by omega))
    rw [e]
    simp only [Option.bind_some]
    rw [← zmp_take hil] at g0
    obtain ⟨a3, e3, w0, w1, w2, w3⟩ := ih (i + 1) a2 fu (zis_keep ha (fun j hj => g1 j (by omega))) (zlA_keep h1 (g1 _ (by omega)) (fun j => g2 _ _ (by omega)) (fun j => g3 _ _ (by omega))) g0 (by omega) (by omega)
    exact ⟨a3, e3, w0, fun j hj => (w1 j hj).trans (g1 j hj), fun c j hc => (w2 c j hc).trans (g2 c j hc), fun c j hc => (w3 c j hc).trans (g3 c j hc)⟩
theorem f8_ev_loop {n kd t d k p N : Nat} {l : List Nat} (v1 : Int32) (hb : zbd n kd t d) (hw : zlw n l) (hk : k < 6) (hpn : p < n) (hN : 5000 ≤ N) : ∀ r i b fuel, zis b n kd t d → zlB b k l → zrow b (zmp (zev p) (l.take i)) → i + r = l.length → r < fuel → ∃ b2, f_X8_even_L46 N v1 (nI k) (nI p) fuel (nI i) b = some b2 ∧ zrow b2 (zmp (zev p) l) ∧ (∀ j, j ≠ 11 → gI b2 j = gI b j) ∧ ∀ c j, c ≠ 51 → gA b2 c j = gA b c j := by
  have hx6 := z_xin (n := 6) hk (by decide)
  have hl := hw.1
  have hn := hb.2.1
  have hp := z_pow n (by omega)
  intro r
  induction r with
  | zero =>
    intro i b fuel ha h1 h2 hi hf
    obtain ⟨fu, rfl⟩ : ∃ fu, fuel = fu + 1 := ⟨fuel - 1, by omega⟩
    rw [List.take_of_length_le (by omega)] at h2
    refine ⟨b, ?_, h2, fun _ _ => rfl, fun _ _ _ => rfl⟩
    rw [f_X8_even_L46]
    simp only [if_pos hx6]
    rw [nI_clamp (by omega), h1.1, if_pos (nI_le (by omega) (by omega))]
  | succ r ih =>
    intro i b fuel ha h1 h2 hi hf
    obtain ⟨fu, rfl⟩ : ∃ fu, fuel = fu + 1 := ⟨fuel - 1, by omega⟩
    have hil : i < l.length := by omega
    have hm := hw.2.2 (l.getD i 0) (by simp [hil])
    have hwt := zmp_w (g := zev p) (n := n) hl (fun x hx => zev_lt hpn (hw.2.2 x hx)) i (by omega)
    have hr := zev_lt hpn hm
    have hzn : znd (l.getD i 0) (2 ^ p) < 4096 := znd_12 (by omega)
    rw [f_X8_even_L46]
    simp only [if_pos hx6]
    rw [nI_clamp (by omega), h1.1, if_neg (nI_ge (by omega) (by omega)), f8_at h1 hk hil hl, nI_1]
    simp only [Option.bind_some]
    rw [z_one p (by omega), znd_and, z_b8 (by omega) hzn]
    simp only [Option.bind_some]
    rw [z_e8 (by omega)]
    obtain ⟨b2, e, g0, g1, g2⟩ := f8_come (m := zev p (l.getD i 0)) h2 (Or.inl (by omega)) (by omega) (fun x hx => by have := hwt.2.2 x hx; omega) (by omega) hN
    rw [e]
    simp only [Option.bind_some]
    rw [← zmp_take hil] at g0
    obtain ⟨b3, e3, w0, w1, w2⟩ := ih (i + 1) b2 fu (zis_keep ha (fun j hj => g1 j (by omega))) (zlB_keep h1 (g2 _ _ (by decide)) (fun j => g2 _ _ (by decide))) g0 (by omega) (by omega)
    exact ⟨b3, e3, w0, fun j hj => (w1 j hj).trans (g1 j hj), fun c j hc => (w2 c j hc).trans (g2 c j hc)⟩
