/-! lists made mark by mark: turn -/
def zmp (g : Nat → Nat) (l : List Nat) : List Nat := l.foldl (fun acc m => zonce acc (g m)) []
theorem zmp_take {g : Nat → Nat} {l : List Nat} {i : Nat} (h : i < l.length) : zmp g (l.take (i + 1)) = zonce (zmp g (l.take i)) (g (l.getD i 0)) := by
  unfold zmp
  rw [← z_take h, List.foldl_append]
  rfl
theorem zonce_len (l : List Nat) (m : Nat) : (zonce l m).length ≤ l.length + 1 := by
  unfold zonce
  split
  · omega
  · simp
theorem zonce_nd {l : List Nat} {m : Nat} (h : l.Nodup) : (zonce l m).Nodup := by
  unfold zonce
  split
  · exact h
  · rename_i c
    rw [List.nodup_append]
    refine ⟨h, by simp, fun x hx y hy => ?_⟩
    rw [List.mem_singleton] at hy
    subst hy
    exact fun z => c (z ▸ hx)
theorem zonce_mem {l : List Nat} {m x : Nat} (h : x ∈ zonce l m) : x ∈ l ∨ x = m := by
  unfold zonce at h
  split at h
  · exact Or.inl h
  · rcases List.mem_append.mp h with z | z
    · exact Or.inl z
    · exact Or.inr (List.mem_singleton.mp z)
theorem zmp_w {g : Nat → Nat} {n : Nat} {l : List Nat} (hl : l.length ≤ 64) (hg : ∀ x ∈ l, g x < 2 ^ n) : ∀ i, i ≤ l.length → (zmp g (l.take i)).length ≤ i ∧ (zmp g (l.take i)).Nodup ∧ ∀ m ∈ zmp g (l.take i), m < 2 ^ n := by
  intro i
  induction i with
  | zero => intro _; exact ⟨Nat.le_refl _, List.nodup_nil, fun m hm => absurd hm List.not_mem_nil⟩
  | succ i ih =>
    intro hi
    obtain ⟨h1, h2, h3⟩ := ih (by omega)
    have hil : i < l.length := by omega
    rw [zmp_take hil]
    refine ⟨Nat.le_trans (zonce_len _ _) (by omega), zonce_nd h2, fun m hm => ?_⟩
    rcases zonce_mem hm with z | z
    · exact h3 m z
    · rw [z]; exact hg _ (by simp [hil])
theorem f7_turn_loop {n kd t d k N : Nat} {l : List Nat} (v1 : Int32) (hb : zbd n kd t d) (hw : zlw n l) (hk : k < 6) (hN : 5000 ≤ N) : ∀ r i a fuel, zis a n kd t d → zlA a k l → zlA a 6 (zmp (zrev n) (l.take i)) → i + r = l.length → r < fuel → ∃ a2, f_X7_turn_L27 N v1 (nI k) fuel (nI i) a = some a2 ∧ zlA a2 6 (zmp (zrev n) l) ∧ (∀ j, j ≠ 29 → gI a2 j = gI a j) ∧ (∀ c j, c ≠ 36 → gA a2 c j = gA a c j) ∧ ∀ c j, c ≠ 43 → gB a2 c j = gB a c j := by
  have hx6 := z_xin (n := 6) hk (by decide)
  have hl := hw.1
  have hn := hb.2.1
  have hp := z_pow n (by omega)
  intro r
  induction r with
  | zero =>
    intro i a fuel ha h1 h2 hi hf
    obtain ⟨fu, rfl⟩ : ∃ fu, fuel = fu + 1 := ⟨fuel - 1, by omega⟩
    rw [List.take_of_length_le (by omega)] at h2
    refine ⟨a, ?_, h2, fun _ _ => rfl, fun _ _ _ => rfl, fun _ _ _ => rfl⟩
    rw [f_X7_turn_L27]
    simp only [if_pos hx6]
    rw [nI_clamp (by omega), h1.1, if_pos (nI_le (by omega) (by omega))]
  | succ r ih =>
    intro i a fuel ha h1 h2 hi hf
    obtain ⟨fu, rfl⟩ : ∃ fu, fuel = fu + 1 := ⟨fuel - 1, by omega⟩
    have hil : i < l.length := by omega
    have hx64 := z_xin (k := i) (n := 64) (by omega) (by decide)
    have hm := hw.2.2 (l.getD i 0) (by simp [hil])
    have hwt := zmp_w (g := zrev n) hl (fun x _ => zrev_lt n x) i (by omega)
    have hr := zrev_lt n (l.getD i 0)
    rw [f_X7_turn_L27]
    simp only [if_pos hx6, if_pos hx64]
    rw [nI_clamp (by omega), nI_clamp (by omega), h1.1, if_neg (nI_ge (by omega) (by omega)), h1.2.1 i hil, f1_rev ha.1 hn (by omega) (by omega), nI_1]
    simp only [Option.bind_some]
    obtain ⟨a2, e, g0, g1, g2, g3⟩ := f3_once (m := zrev n (l.getD i 0)) h2 (by omega) (by omega) (by decide) (Nat.le_trans (zonce_len _ _) (by omega))
    rw [e]
    simp only [Option.bind_some]
    rw [← zmp_take hil] at g0
    obtain ⟨a3, e3, w0, w1, w2, w3⟩ := ih (i + 1) a2 fu (zis_keep ha (fun j hj => g1 j (by omega))) (zlA_keep h1 (g1 _ (by omega)) (fun j => g2 _ _ (by omega)) (fun j => g3 _ _ (by omega))) g0 (by omega) (by omega)
    exact ⟨a3, e3, w0, fun j hj => (w1 j hj).trans (g1 j hj), fun c j hc => (w2 c j hc).trans (g2 c j hc), fun c j hc => (w3 c j hc).trans (g3 c j hc)⟩
theorem f8_turn_loop {n kd t d k N : Nat} {l : List Nat} (v1 : Int32) (hb : zbd n kd t d) (hw : zlw n l) (hk : k < 6) (hN : 5000 ≤ N) : ∀ r i b fuel, zis b n kd t d → zlB b k l → zrow b (zmp (zrev n) (l.take i)) → i + r = l.length → r < fuel → ∃ b2, f_X8_turn_L25 N v1 (nI k) fuel (nI i) b = some b2 ∧ zrow b2 (zmp (zrev n) l) ∧ (∀ j, j ≠ 11 → gI b2 j = gI b j) ∧ ∀ c j, c ≠ 51 → gA b2 c j = gA b c j := by
  have hx6 := z_xin (n := 6) hk (by decide)
  have hl := hw.1
  have hn := hb.2.1
  have hp := z_pow n (by omega)
  intro r
  induction r with
  | zero =>
    intro i b fuel ha h1 h2 hi hf
    obtain ⟨fu, rfl⟩ : ∃ fu, fuel = fu + 1 := ⟨fuel - 1, by omega⟩
    rw [List.take_of_length_le (by omega)] at h2
    refine ⟨b, ?_, h2, fun _ _ => rfl, fun _ _ _ => rfl⟩
    rw [f_X8_turn_L25]
    simp only [if_pos hx6]
    rw [nI_clamp (by omega), h1.1, if_pos (nI_le (by omega) (by omega))]
  | succ r ih =>
    intro i b fuel ha h1 h2 hi hf
    obtain ⟨fu, rfl⟩ : ∃ fu, fuel = fu + 1 := ⟨fuel - 1, by omega⟩
    have hil : i < l.length := by omega
    have hm := hw.2.2 (l.getD i 0) (by simp [hil])
    have hwt := zmp_w (g := zrev n) hl (fun x _ => zrev_lt n x) i (by omega)
    have hr := zrev_lt n (l.getD i 0)
    rw [f_X8_turn_L25]
    simp only [if_pos hx6]
    rw [nI_clamp (by omega), h1.1, if_neg (nI_ge (by omega) (by omega)), f8_at h1 hk hil hl, nI_1]
    simp only [Option.bind_some]
    rw [f8_trn ha.1 hn (by omega) (by omega)]
    simp only [Option.bind_some]
    obtain ⟨b2, e, g0, g1, g2⟩ := f8_come (m := zrev n (l.getD i 0)) h2 (Or.inl (by omega)) (by omega) (fun x hx => by have := hwt.2.2 x hx; omega) (by omega) hN
    rw [e]
    simp only [Option.bind_some]
    rw [← zmp_take hil] at g0
    obtain ⟨b3, e3, w0, w1, w2⟩ := ih (i + 1) b2 fu (zis_keep ha (fun j hj => g1 j (by omega))) (zlB_keep h1 (g2 _ _ (by decide)) (fun j => g2 _ _ (by decide))) g0 (by omega) (by omega)
    exact ⟨b3, e3, w0, fun j hj => (w1 j hj).trans (g1 j hj), fun c j hc => (w2 c j hc).trans (g2 c j hc)⟩
