/-! the text and its pieces -/
def zsp (T : Nat → Nat) : Nat → Nat → Nat
  | 0, p => p
  | r + 1, p => if T p = 32 then zsp T r (p + 1) else p
def zskp (T : Nat → Nat) (tl p : Nat) : Nat := zsp T (tl - p) p
def zkd (c : Nat) : Nat := if 97 ≤ c ∧ c ≤ 122 then 1 else if 48 ≤ c ∧ c ≤ 57 then 2 else 3
def zrn (T : Nat → Nat) (k : Nat) : Nat → Nat → Nat
  | 0, p => p
  | r + 1, p => if zkd (T p) = k then zrn T k r (p + 1) else p
def zren (T : Nat → Nat) (tl k p : Nat) : Nat := zrn T k (tl - p) p
def ztk (T : Nat → Nat) (tl p : Nat) : Nat := if zskp T tl p < tl then zkd (T (zskp T tl p)) else 0
def znxt (T : Nat → Nat) (tl p : Nat) : Nat := if zskp T tl p < tl then (if zkd (T (zskp T tl p)) = 3 then zskp T tl p + 1 else zren T tl (zkd (T (zskp T tl p))) (zskp T tl p + 1)) else zskp T tl p
theorem zsp_rng (T : Nat → Nat) : ∀ r p, p ≤ zsp T r p ∧ zsp T r p ≤ p + r
  | 0, p => ⟨Nat.le_refl _, Nat.le_refl _⟩
  | r + 1, p => by
    have h := zsp_rng T r (p + 1)
    rw [zsp]
    split <;> omega
theorem zsp_ne (T : Nat → Nat) : ∀ r p, zsp T r p < p + r → T (zsp T r p) ≠ 32
  | 0, p, h => by rw [zsp] at h; omega
  | r + 1, p, h => by
    rw [zsp] at h ⊢
    split at h
    · rename_i c
      rw [if_pos c]
      exact zsp_ne T r (p + 1) (by omega)
    · rename_i c
      rw [if_neg c]
      exact c
theorem zskp_rng {T : Nat → Nat} {tl p : Nat} (h : p ≤ tl) : p ≤ zskp T tl p ∧ zskp T tl p ≤ tl := by
  have := zsp_rng T (tl - p) p
  unfold zskp
  omega
theorem zskp_skp {T : Nat → Nat} {tl p : Nat} (h : p ≤ tl) : zskp T tl (zskp T tl p) = zskp T tl p := by
  have h1 := zskp_rng (T := T) h
  by_cases c : zskp T tl p < tl
  · have hne : T (zskp T tl p) ≠ 32 := zsp_ne T (tl - p) p (by have : zsp T (tl - p) p = zskp T tl p := rfl; omega)
    generalize zskp T tl p = q at *
    unfold zskp
    obtain ⟨r, hr⟩ : ∃ r, tl - q = r + 1 := ⟨tl - q - 1, by omega⟩
    rw [hr, zsp, if_neg hne]
  · have e : zskp T tl p = tl := by omega
    rw [e]
    unfold zskp
    rw [Nat.sub_self]; rfl
theorem zrn_rng (T : Nat → Nat) (k : Nat) : ∀ r p, p ≤ zrn T k r p ∧ zrn T k r p ≤ p + r
  | 0, p => ⟨Nat.le_refl _, Nat.le_refl _⟩
  | r + 1, p => by
    have h := zrn_rng T k r (p + 1)
    rw [zrn]
    split <;> omega
theorem zren_rng {T : Nat → Nat} {tl k p : Nat} (h : p ≤ tl) : p ≤ zren T tl k p ∧ zren T tl k p ≤ tl := by
  have := zrn_rng T k (tl - p) p
  unfold zren
  omega
theorem znxt_rng {T : Nat → Nat} {tl p : Nat} (h : p ≤ tl) : zskp T tl p ≤ znxt T tl p ∧ znxt T tl p ≤ tl ∧ (zskp T tl p < tl → zskp T tl p < znxt T tl p) := by
  have h1 := zskp_rng (T := T) h
  unfold znxt
  by_cases c : zskp T tl p < tl
  · rw [if_pos c]
    split
    · omega
    · have := zren_rng (T := T) (tl := tl) (k := zkd (T (zskp T tl p))) (p := zskp T tl p + 1) (by omega)
      omega
  · rw [if_neg c]; omega
theorem ztk_skp {T : Nat → Nat} {tl p : Nat} (h : p ≤ tl) : ztk T tl (zskp T tl p) = ztk T tl p ∧ znxt T tl (zskp T tl p) = znxt T tl p := by
  unfold ztk znxt
  rw [zskp_skp h]
  exact ⟨rfl, rfl⟩
def ztA (a : xT) (T : Nat → Nat) (tl : Nat) : Prop := gI a 5 = nI tl ∧ tl ≤ 120 ∧ ∀ j, j < tl → gA a 7 j = nI (T j) ∧ T j < 256
def ztB (b : xT) (T : Nat → Nat) (tl : Nat) : Prop := gI b 14 = nI tl ∧ tl ≤ 120 ∧ ∀ j, j < tl → gA b 52 j = nI (T j) ∧ T j < 256
theorem f6_kind : ∀ c, c < 256 → f_X6_kindOf (nI c) = some (nI (zkd c)) := by decide +kernel
theorem zkd_rng (c : Nat) : 1 ≤ zkd c ∧ zkd c ≤ 3 := by
  unfold zkd
  split
  · omega
  · split <;> omega
/-- what the class's pieces leave as it was -/
def zfx (a a2 : xT) : Prop := (∀ j, j ≠ 6 → j ≠ 7 → j ≠ 8 → gI a2 j = gI a j) ∧ (∀ c j, gA a2 c j = gA a c j) ∧ ∀ c j, gB a2 c j = gB a c j
theorem f6_skip {T : Nat → Nat} {tl : Nat} : ∀ r p a fuel, ztA a T tl → gI a 8 = nI p → p + r = tl → r < fuel → ∃ a2, f_X6_advance_L0 fuel a = some a2 ∧ gI a2 8 = nI (zsp T r p) ∧ (∀ j, j ≠ 8 → gI a2 j = gI a j) ∧ (∀ c j, gA a2 c j = gA a c j) ∧ ∀ c j, gB a2 c j = gB a c j := by
  intro r
  induction r with
  | zero =>
    intro p a fuel ht h8 hp hf
    obtain ⟨fu, rfl⟩ : ∃ fu, fuel = fu + 1 := ⟨fuel - 1, by omega⟩
    have h120 := ht.2.1
    refine ⟨a, ?_, h8, fun _ _ => rfl, fun _ _ => rfl, fun _ _ => rfl⟩
    rw [f_X6_advance_L0, ht.1, h8, if_pos (nI_le (by omega) (by omega))]
  | succ r ih =>
    intro p a fuel ht h8 hp hf
    obtain ⟨fu, rfl⟩ : ∃ fu, fuel = fu + 1 := ⟨fuel - 1, by omega⟩
    have h120 := ht.2.1
    obtain ⟨t1, t2⟩ := ht.2.2 p (by omega)
    rw [f_X6_advance_L0, ht.1, h8, if_neg (nI_ge (by omega) (by omega)), if_pos (z_xin (by omega) (by decide)), nI_clamp (by omega), t1, zsp, nI_1]
    by_cases c : T p = 32
    · rw [if_pos (show nI (T p) = 32 by rw [c]; rfl), if_pos c]
      obtain ⟨a2, w1, w2, w3, w4, w5⟩ := ih (p + 1) (sI a 8 (nI (p + 1))) fu ht (by rw [gI_sI, if_pos rfl]) (by omega) (by omega)
      exact ⟨a2, w1, w2, fun j hj => by rw [w3 j hj, gI_sI, if_neg hj], w4, w5⟩
    · rw [if_neg (show ¬ nI (T p) = 32 from fun z => c ((nI_eq (b := 32) (by omega) (by decide)).mp z)), if_neg c]
      exact ⟨a, rfl, h8, fun _ _ => rfl, fun _ _ => rfl, fun _ _ => rfl⟩
theorem f6_run {T : Nat → Nat} {tl k : Nat} (hk : k < 3) : ∀ r p a fuel, ztA a T tl → gI a 6 = nI k → gI a 8 = nI p → p + r = tl → r < fuel → ∃ a2, f_X6_advance_L89 fuel a = some a2 ∧ gI a2 8 = nI (zrn T k r p) ∧ (∀ j, j ≠ 8 → gI a2 j = gI a j) ∧ (∀ c j, gA a2 c j = gA a c j) ∧ ∀ c j, gB a2 c j = gB a c j := by
  intro r
  induction r with
  | zero =>
    intro p a fuel ht h6 h8 hp hf
    obtain ⟨fu, rfl⟩ : ∃ fu, fuel = fu + 1 := ⟨fuel - 1, by omega⟩
    have h120 := ht.2.1
    refine ⟨a, ?_, h8, fun _ _ => rfl, fun _ _ => rfl, fun _ _ => rfl⟩
    rw [f_X6_advance_L89, h6, if_neg (fun z => by rw [nI_eq3 (by omega)] at z; omega), ht.1, h8, if_pos (nI_le (by omega) (by omega))]
  | succ r ih =>
    intro p a fuel ht h6 h8 hp hf
    obtain ⟨fu, rfl⟩ : ∃ fu, fuel = fu + 1 := ⟨fuel - 1, by omega⟩
    have h120 := ht.2.1
    obtain ⟨t1, t2⟩ := ht.2.2 p (by omega)
    have hkr := zkd_rng (T p)
    rw [f_X6_advance_L89, h6, if_neg (fun z => by rw [nI_eq3 (by omega)] at z; omega), ht.1, h8, if_neg (nI_ge (by omega) (by omega)), if_pos (z_xin (by omega) (by decide)), nI_clamp (by omega), t1, f6_kind _ t2, z_sbind, zrn, nI_1]
    by_cases c : zkd (T p) = k
    · rw [if_pos (by rw [c]), if_pos c]
      obtain ⟨a2, w1, w2, w3, w4, w5⟩ := ih (p + 1) (sI a 8 (nI (p + 1))) fu ht h6 (by rw [gI_sI, if_pos rfl]) (by omega) (by omega)
      exact ⟨a2, w1, w2, fun j hj => by rw [w3 j hj, gI_sI, if_neg hj], w4, w5⟩
    · rw [if_neg (fun z => c ((nI_eq (by omega) (by omega)).mp z)), if_neg c]
      exact ⟨a, rfl, h8, fun _ _ => rfl, fun _ _ => rfl, fun _ _ => rfl⟩
def zatk (a : xT) (T : Nat → Nat) (tl p : Nat) : Prop := gI a 7 = nI (zskp T tl p) ∧ gI a 6 = nI (ztk T tl p) ∧ gI a 8 = nI (znxt T tl p)
theorem f6_adv {a : xT} {T : Nat → Nat} {tl p N : Nat} (ht : ztA a T tl) (h8 : gI a 8 = nI p) (hp : p ≤ tl) (hN : 200 ≤ N) : ∃ a2, f_X6_advance N a = some a2 ∧ zatk a2 T tl p ∧ zfx a a2 := by
  have h120 := ht.2.1
  obtain ⟨a1, w1, w2, w3, w4, w5⟩ := f6_skip (tl - p) p a N ht h8 (by omega) (by omega)
  have hr := zskp_rng (T := T) hp
  have w2' : gI a1 8 = nI (zskp T tl p) := w2
  have ht1 : ztA a1 T tl := ⟨(w3 5 (by decide)).trans ht.1, h120, fun j hj => by rw [w4]; exact ht.2.2 j hj⟩
  unfold f_X6_advance zatk ztk znxt
  rw [w1, z_sbind, w2', ht1.1]
  by_cases c : zskp T tl p < tl
  · obtain ⟨t1, t2⟩ := ht1.2.2 _ c
    have hkr := zkd_rng (T (zskp T tl p))
    rw [if_pos (nI_lt c (by omega)), if_pos (z_xin (by omega) (by decide)), nI_clamp (by omega), t1, f6_kind _ t2, z_sbind, nI_1, if_pos c, if_pos c]
    by_cases c3 : zkd (T (zskp T tl p)) = 3
    · obtain ⟨fu, rfl⟩ : ∃ fu, N = fu + 1 := ⟨N - 1, by omega⟩
      have e6 : gI (sI (sI (sI a1 7 (nI (zskp T tl p))) 6 (nI (zkd (T (zskp T tl p))))) 8 (nI (zskp T tl p + 1))) 6 = 3 := by
        show nI (zkd (T (zskp T tl p))) = 3
        rw [c3]; rfl
      rw [f_X6_advance_L89, if_pos e6, z_sbind, if_pos c3]
      refine ⟨_, rfl, ⟨rfl, rfl, rfl⟩, fun j h1 h2 h3 => ?_, w4, w5⟩
      rw [gI_sI, if_neg h3, gI_sI, if_neg h1, gI_sI, if_neg h2, w3 j h3]
    · obtain ⟨a2, u1, u2, u3, u4, u5⟩ := f6_run (T := T) (tl := tl) (k := zkd (T (zskp T tl p))) (by omega) (tl - (zskp T tl p + 1)) (zskp T tl p + 1) (sI (sI (sI a1 7 (nI (zskp T tl p))) 6 (nI (zkd (T (zskp T tl p))))) 8 (nI (zskp T tl p + 1))) N ht1 rfl rfl (by omega) (by omega)
      rw [u1, z_sbind, if_neg c3]
      refine ⟨a2, rfl, ⟨by rw [u3 7 (by decide)]; rfl, by rw [u3 6 (by decide)]; rfl, u2⟩, fun j h1 h2 h3 => ?_, fun c j => (u4 c j).trans (w4 c j), fun c j => (u5 c j).trans (w5 c j)⟩
      rw [u3 j h3, gI_sI, if_neg h3, gI_sI, if_neg h1, gI_sI, if_neg h2, w3 j h3]
  · rw [if_neg (nI_nlt (by omega) (by omega)), if_neg c, if_neg c]
    refine ⟨_, rfl, ⟨rfl, rfl, w2'⟩, fun j h1 h2 h3 => ?_, w4, w5⟩
    rw [gI_sI, if_neg h1, gI_sI, if_neg h2, w3 j h3]
/-! the reference: here -/
theorem f8_skip {T : Nat → Nat} {tl : Nat} : ∀ r p b fuel, ztB b T tl → gI b 16 = nI p → p + r = tl → r < fuel → ∃ b2, f_X8_here_L0 fuel b = some b2 ∧ gI b2 16 = nI (zsp T r p) ∧ (∀ j, j ≠ 16 → gI b2 j = gI b j) ∧ (∀ c j, gA b2 c j = gA b c j) ∧ ∀ j, gJ b2 j = gJ b j := by
  intro r
  induction r with
  | zero =>
    intro p b fuel ht h8 hp hf
    obtain ⟨fu, rfl⟩ : ∃ fu, fuel = fu + 1 := ⟨fuel - 1, by omega⟩
    have h120 := ht.2.1
    refine ⟨b, ?_, h8, fun _ _ => rfl, fun _ _ => rfl, fun _ => rfl⟩
    rw [f_X8_here_L0, ht.1, h8, if_pos (nI_le (by omega) (by omega))]
  | succ r ih =>
    intro p b fuel ht h8 hp hf
    obtain ⟨fu, rfl⟩ : ∃ fu, fuel = fu + 1 := ⟨fuel - 1, by omega⟩
    have h120 := ht.2.1
    obtain ⟨t1, t2⟩ := ht.2.2 p (by omega)
    rw [f_X8_here_L0, ht.1, h8, if_neg (nI_ge (by omega) (by omega)), if_pos (z_xin (by omega) (by decide)), nI_clamp (by omega), t1, zsp, nI_1]
    by_cases c : T p = 32
    · rw [if_pos (show nI (T p) = 32 by rw [c]; rfl), if_pos c]
      obtain ⟨b2, w1, w2, w3, w4, w5⟩ := ih (p + 1) (sI b 16 (nI (p + 1))) fu ht (by rw [gI_sI, if_pos rfl]) (by omega) (by omega)
      exact ⟨b2, w1, w2, fun j hj => by rw [w3 j hj, gI_sI, if_neg hj], w4, w5⟩
    · rw [if_neg (show ¬ nI (T p) = 32 from fun z => c ((nI_eq (b := 32) (by omega) (by decide)).mp z)), if_neg c]
      exact ⟨b, rfl, h8, fun _ _ => rfl, fun _ _ => rfl, fun _ => rfl⟩
theorem f8_here {b : xT} {T : Nat → Nat} {tl p N : Nat} (ht : ztB b T tl) (h16 : gI b 16 = nI p) (hp : p ≤ tl) (hN : 200 ≤ N) : ∃ b2, f_X8_here N b = some (if zskp T tl p < tl then nI (T (zskp T tl p)) else -1, b2) ∧ gI b2 16 = nI (zskp T tl p) ∧ (∀ j, j ≠ 16 → gI b2 j = gI b j) ∧ (∀ c j, gA b2 c j = gA b c j) ∧ ∀ j, gJ b2 j = gJ b j := by
  have h120 := ht.2.1
  obtain ⟨b1, w1, w2, w3, w4, w5⟩ := f8_skip (tl - p) p b N ht h16 (by omega) (by omega)
  have hr := zskp_rng (T := T) hp
  have w2' : gI b1 16 = nI (zskp T tl p) := w2
  have e14 : gI b1 14 = nI tl := (w3 14 (by decide)).trans ht.1
  unfold f_X8_here
  rw [w1, z_sbind, w2', e14]
  by_cases c : zskp T tl p < tl
  · rw [if_neg (nI_ge c (by omega)), if_pos (z_xin (by omega) (by decide)), nI_clamp (by omega), w4, (ht.2.2 _ c).1, if_pos c]
    exact ⟨b1, rfl, w2', w3, w4, w5⟩
  · rw [if_pos (nI_le (by omega) (by omega)), if_neg c]
    exact ⟨b1, rfl, w2', w3, w4, w5⟩
