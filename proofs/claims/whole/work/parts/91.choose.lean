/-! how many ways -/
def zcl (v : Nat) : Nat → Nat → Nat → Nat
  | 0, _, w => w
  | r + 1, i, w => zcl v r (i + 1) (w * (v - i) / (i + 1))
def zC (v k : Nat) : Nat := if k ≤ v then zcl v k 0 1 else 0
theorem f1_ch_mono (v0 v1 : Int32) (m : Nat) : ∀ n a b r, f_X1_choose_L15 v0 v1 n a b = some r → f_X1_choose_L15 v0 v1 (n + m) a b = some r := by
  intro n
  induction n with
  | zero => intro a b r h; cases h
  | succ n ih =>
    intro a b r h
    rw [show n + 1 + m = (n + m) + 1 by omega, f_X1_choose_L15]
    rw [f_X1_choose_L15] at h
    by_cases c1 : v1 ≤ b
    · rw [if_pos c1] at h ⊢; exact h
    · rw [if_neg c1] at h ⊢
      by_cases c2 : ¬ (b + 1) = 0
      · rw [if_pos c2] at h ⊢; exact ih _ _ _ h
      · rw [if_neg c2] at h; cases h
theorem f8_ch_mono (v0 v1 : Int32) (m : Nat) : ∀ n a b r, f_X8_choose_L4 v0 v1 n a b = some r → f_X8_choose_L4 v0 v1 (n + m) a b = some r := by
  intro n
  induction n with
  | zero => intro a b r h; cases h
  | succ n ih =>
    intro a b r h
    rw [show n + 1 + m = (n + m) + 1 by omega, f_X8_choose_L4]
    rw [f_X8_choose_L4] at h
    by_cases c1 : v1 < b
    · rw [if_pos c1] at h ⊢; exact h
    · rw [if_neg c1] at h ⊢
      by_cases c2 : ¬ b = 0
      · rw [if_pos c2] at h ⊢; exact ih _ _ _ h
      · rw [if_neg c2] at h; cases h
theorem z_ch7 : ∀ v, v < 13 → ∀ k, k < 13 → k ≤ v → f_X1_choose_L15 (nI v) (nI k) 20 1 0 = some (nI (zC v k)) := by decide +kernel
theorem z_ch8 : ∀ v, v < 13 → ∀ k, k < 13 → (f_X8_choose_L4 (nI v) (nI k) 20 1 1).bind (fun q => if nI k ≤ nI v then some q else some 0) = some (nI (zC v k)) := by decide +kernel
theorem f1_choose {v k N : Nat} (hv : v < 13) (hk : k < 13) (hN : 20 ≤ N) : f_X1_choose N (nI v) (nI k) = some (nI (zC v k)) := by
  obtain ⟨m, rfl⟩ : ∃ m, N = 20 + m := ⟨N - 20, by omega⟩
  unfold f_X1_choose
  rw [if_neg (nI_pos (by omega))]
  by_cases c : k ≤ v
  · rw [if_pos (nI_le c (by omega)), f1_ch_mono _ _ m _ _ _ _ (z_ch7 v hv k hk c)]; rfl
  · rw [if_neg (nI_ge (by omega) (by omega))]
    unfold zC; rw [if_neg c]; rfl
theorem f8_choose {v k N : Nat} (hv : v < 13) (hk : k < 13) (hN : 20 ≤ N) : f_X8_choose N (nI v) (nI k) = some (nI (zC v k)) := by
  obtain ⟨m, rfl⟩ : ∃ m, N = 20 + m := ⟨N - 20, by omega⟩
  have h := z_ch8 v hv k hk
  unfold f_X8_choose
  cases q : f_X8_choose_L4 (nI v) (nI k) 20 1 1 with
  | none => rw [q] at h; cases h
  | some r =>
    rw [q] at h
    rw [f8_ch_mono _ _ m _ _ _ _ q]
    exact h
def zUs (v : Nat) : Nat → Nat → Nat
  | _, 0 => 0
  | i, r + 1 => zC v i + zUs v (i + 1) r
def zU (v k : Nat) : Nat := zUs v 0 (k + 1)
theorem f1_up_loop {v k N : Nat} (hv : v < 13) (hk : k < 12) (hN : 20 ≤ N) : ∀ r i acc fuel, i + r = k + 1 → r < fuel → f_X1_upTo_L4 N (nI v) (nI k) fuel (nI acc) (nI i) = some (nI (acc + zUs v i r)) := by
  intro r
  induction r with
  | zero =>
    intro i acc fuel hi hf
    obtain ⟨fu, rfl⟩ : ∃ fu, fuel = fu + 1 := ⟨fuel - 1, by omega⟩
    rw [f_X1_upTo_L4, if_pos (nI_lt (by omega) (by omega))]; rfl
  | succ r ih =>
    intro i acc fuel hi hf
    obtain ⟨fu, rfl⟩ : ∃ fu, fuel = fu + 1 := ⟨fuel - 1, by omega⟩
    rw [f_X1_upTo_L4, if_neg (nI_nlt (by omega) (by omega)), f1_choose hv (by omega) hN, z_sbind, nI_add, nI_1, ih (i + 1) _ fu (by omega) (by omega), zUs, Nat.add_assoc]
theorem f8_up_loop {v k N : Nat} (hv : v < 13) (hk : k < 12) (hN : 20 ≤ N) : ∀ r i acc fuel, i + r = k + 1 → r < fuel → f_X8_upTo_L4 N (nI v) (nI k) fuel (nI acc) (nI i) = some (nI (acc + zUs v i r)) := by
  intro r
  induction r with
  | zero =>
    intro i acc fuel hi hf
    obtain ⟨fu, rfl⟩ : ∃ fu, fuel = fu + 1 := ⟨fuel - 1, by omega⟩
    rw [f_X8_upTo_L4, if_pos (nI_lt (by omega) (by omega))]; rfl
  | succ r ih =>
    intro i acc fuel hi hf
    obtain ⟨fu, rfl⟩ : ∃ fu, fuel = fu + 1 := ⟨fuel - 1, by omega⟩
    rw [f_X8_upTo_L4, if_neg (nI_nlt (by omega) (by omega)), f8_choose hv (by omega) hN, z_sbind, nI_add, nI_1, ih (i + 1) _ fu (by omega) (by omega), zUs, Nat.add_assoc]
theorem f1_upTo {v k N : Nat} (hv : v < 13) (hk : k < 12) (hN : 20 ≤ N) : f_X1_upTo N (nI v) (nI k) = some (nI (zU v k)) := by
  have := f1_up_loop hv hk hN (k + 1) 0 0 N (by omega) (by omega)
  rw [Nat.zero_add, show nI 0 = (0 : Int32) from rfl] at this
  unfold f_X1_upTo
  rw [this]; rfl
theorem f8_upTo {v k N : Nat} (hv : v < 13) (hk : k < 12) (hN : 20 ≤ N) : f_X8_upTo N (nI v) (nI k) = some (nI (zU v k)) := by
  have := f8_up_loop hv hk hN (k + 1) 0 0 N (by omega) (by omega)
  rw [Nat.zero_add, show nI 0 = (0 : Int32) from rfl] at this
  unfold f_X8_upTo
  rw [this]; rfl
/-! both ways, as the class counts -/
def zS1 (al : Nat) : Nat → Nat → Nat
  | _, 0 => 0
  | i, r + 1 => zC al i + zS1 al (i + 1) r
/-- from lo to hi -/
def zSx (al lo hi : Nat) : Nat := zS1 al lo (hi + 1 - lo)
def zS2 (d al em cu lo : Nat) : Nat → Nat → Nat
  | _, 0 => 0
  | w, r + 1 => cu * zC em w * zSx al lo (d - w) * zSx al lo (d - w) + zS2 d al em cu lo (w + 1) r
def zS3 (t d c al em : Nat) : Nat → Nat → Nat
  | _, 0 => 0
  | u, r + 1 => zS2 d al em (zC c u) (al - (t - u)) 0 (d + 1) + zS3 t d c al em (u + 1) r
def zSB (t d c al em : Nat) : Nat := zS3 t d c al em 0 (t + 1)
/-! both ways, as the reference counts -/
def zF1 (t d c al em p : Nat) : Nat → Nat → Nat
  | _, 0 => 0
  | q, r + 1 => (if al - min p q ≤ t ∧ max p q ≤ d then zC al p * zC al q * zU c (t - (al - min p q)) * zU em (d - max p q) else 0) + zF1 t d c al em p (q + 1) r
def zF2 (t d c al em : Nat) : Nat → Nat → Nat
  | _, 0 => 0
  | p, r + 1 => zF1 t d c al em p 0 (al + 1) + zF2 t d c al em (p + 1) r
def zFB (t d c al em : Nat) : Nat := zF2 t d c al em 0 (al + 1)
theorem z_bw6 : ∀ t, t < 5 → ∀ d, d < 5 → ∀ c, c < 1 → ∀ em, em < 1 → zSB t d c 6 em = zFB t d c 6 em ∧ zSB t d c 6 em ≤ zU (c + 6) t * zU (em + 6) d := by decide +kernel
theorem z_bw5 : ∀ t, t < 5 → ∀ d, d < 5 → ∀ c, c < 3 → ∀ em, em < 3 → zSB t d c 5 em = zFB t d c 5 em ∧ zSB t d c 5 em ≤ zU (c + 5) t * zU (em + 5) d := by decide +kernel
