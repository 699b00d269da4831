/-! both ways -/
theorem z_bw0 : ∀ t, t < 5 → ∀ d, d < 5 → ∀ c, c < 13 → ∀ em, em < 13 → zSB t d c 0 em = zFB t d c 0 em ∧ zSB t d c 0 em ≤ zU (c + 0) t * zU (em + 0) d := by decide +kernel
theorem z_bw00 : ∀ t, t < 5 → ∀ d, d < 5 → ∀ c, c < 13 → ∀ em, em < 13 → zSB t d c 0 em = zU c t * zU em d := by decide +kernel
theorem z_bw1 : ∀ t, t < 5 → ∀ d, d < 5 → ∀ c, c < 11 → ∀ em, em < 11 → zSB t d c 1 em = zFB t d c 1 em ∧ zSB t d c 1 em ≤ zU (c + 1) t * zU (em + 1) d := by decide +kernel
theorem z_bw2 : ∀ t, t < 5 → ∀ d, d < 5 → ∀ c, c < 9 → ∀ em, em < 9 → zSB t d c 2 em = zFB t d c 2 em ∧ zSB t d c 2 em ≤ zU (c + 2) t * zU (em + 2) d := by decide +kernel
theorem z_bw3 : ∀ t, t < 5 → ∀ d, d < 5 → ∀ c, c < 7 → ∀ em, em < 7 → zSB t d c 3 em = zFB t d c 3 em ∧ zSB t d c 3 em ≤ zU (c + 3) t * zU (em + 3) d := by decide +kernel
theorem z_bw4 : ∀ t, t < 5 → ∀ d, d < 5 → ∀ c, c < 5 → ∀ em, em < 5 → zSB t d c 4 em = zFB t d c 4 em ∧ zSB t d c 4 em ≤ zU (c + 4) t * zU (em + 4) d := by decide +kernel
theorem z_bw {t d c al em : Nat} (ht : t ≤ 4) (hd : d ≤ 4) (h : c + 2 * al + em ≤ 12) : zSB t d c al em = zFB t d c al em ∧ zSB t d c al em ≤ zU (c + al) t * zU (em + al) d := by
  rcases (show al = 0 ∨ al = 1 ∨ al = 2 ∨ al = 3 ∨ al = 4 ∨ al = 5 ∨ al = 6 by omega) with rfl | rfl | rfl | rfl | rfl | rfl | rfl
  · exact z_bw0 t (by omega) d (by omega) c (by omega) em (by omega)
  · exact z_bw1 t (by omega) d (by omega) c (by omega) em (by omega)
  · exact z_bw2 t (by omega) d (by omega) c (by omega) em (by omega)
  · exact z_bw3 t (by omega) d (by omega) c (by omega) em (by omega)
  · exact z_bw4 t (by omega) d (by omega) c (by omega) em (by omega)
  · exact z_bw5 t (by omega) d (by omega) c (by omega) em (by omega)
  · exact z_bw6 t (by omega) d (by omega) c (by omega) em (by omega)
theorem z_Urng : ∀ v, v < 13 → ∀ k, k < 5 → 1 ≤ zU v k ∧ zU v k ≤ 4096 := by decide +kernel
/-! the class's loops -/
theorem f1_s56 {a : xT} {d al w N : Nat} (v1 v3 v4 v5 : Int32) (h3 : gI a 3 = nI d) (hd : d ≤ 4) (hw : w ≤ d) (hal : al < 13) (hN : 20 ≤ N) : ∀ r i acc fuel, (i + r = d - w + 1 ∨ (d - w < i ∧ r = 0)) → i < 13 → r < fuel → f_X1_sightsBothWays_L56 N v1 (nI al) v3 v4 v5 (nI w) a fuel (nI acc) (nI i) = some (nI (acc + zS1 al i r)) := by
  have e1 : nI d - nI w = nI (d - w) := pk_sub hw
  intro r
  induction r with
  | zero =>
    intro i acc fuel hi hi2 hf
    obtain ⟨fu, rfl⟩ : ∃ fu, fuel = fu + 1 := ⟨fuel - 1, by omega⟩
    rw [f_X1_sightsBothWays_L56, h3, e1, if_pos (nI_lt (by omega) (by omega))]; rfl
  | succ r ih =>
    intro i acc fuel hi hi2 hf
    obtain ⟨fu, rfl⟩ : ∃ fu, fuel = fu + 1 := ⟨fuel - 1, by omega⟩
    rw [f_X1_sightsBothWays_L56, h3, e1, if_neg (nI_nlt (by omega) (by omega)), f1_choose hal (by omega) hN, z_sbind, nI_add, nI_1, ih (i + 1) _ fu (by omega) (by omega) (by omega), zS1, Nat.add_assoc]
theorem z_max0 {al x : Nat} (h1 : al < 2 ^ 30) (h2 : x < 2 ^ 30) : xmax 0 (nI al - nI x) = nI (al - x) := by
  unfold xmax
  have hs : (nI al - nI x).toInt = (al : Int) - x := pk_sub_toInt h1 h2
  by_cases c : x < al
  · rw [if_pos (Int32.lt_iff_toInt_lt.mpr (by rw [hs, show (0 : Int32).toInt = 0 from rfl]; omega)), pk_sub (by omega)]
  · rw [if_neg (fun z => by rw [Int32.lt_iff_toInt_lt, hs, show (0 : Int32).toInt = 0 from rfl] at z; omega), show al - x = 0 by omega]; rfl
theorem f1_s29 {a : xT} {t d c al em u N : Nat} (h2 : gI a 2 = nI t) (h3 : gI a 3 = nI d) (ht : t ≤ 4) (hd : d ≤ 4) (hu : u ≤ t) (hc : c < 13) (hal : al < 13) (hem : em < 13) (hN : 20 ≤ N) : ∀ r w acc fuel, w + r = d + 1 → r < fuel → f_X1_sightsBothWays_L29 N (nI c) (nI al) (nI em) (nI u) a fuel (nI acc) (nI w) = some (nI (acc + zS2 d al em (zC c u) (al - (t - u)) w r)) := by
  have e1 : nI t - nI u = nI (t - u) := pk_sub hu
  intro r
  induction r with
  | zero =>
    intro w acc fuel hi hf
    obtain ⟨fu, rfl⟩ : ∃ fu, fuel = fu + 1 := ⟨fuel - 1, by omega⟩
    rw [f_X1_sightsBothWays_L29, h3, if_pos (nI_lt (by omega) (by omega))]; rfl
  | succ r ih =>
    intro w acc fuel hi hf
    obtain ⟨fu, rfl⟩ : ∃ fu, fuel = fu + 1 := ⟨fuel - 1, by omega⟩
    have hl := f1_s56 (N := N) (nI c) (nI em) (nI acc) (nI u) h3 hd (show w ≤ d by omega) hal hN (d - w + 1 - (al - (t - u))) (al - (t - u)) 0 N (by omega) (by omega) (by omega)
    rw [Nat.zero_add, show nI 0 = (0 : Int32) from rfl] at hl
    rw [f_X1_sightsBothWays_L29, h3, if_neg (nI_nlt (by omega) (by omega)), h2, e1, z_max0 (by omega) (by omega), hl, z_sbind, f1_choose hc (by omega) hN, z_sbind, f1_choose hem (by omega) hN, z_sbind, pk_mul, pk_mul, pk_mul, nI_add, nI_1, ih (w + 1) _ fu (by omega) (by omega), zS2, Nat.add_assoc]
    rfl
theorem f1_s17 {a : xT} {t d c al em N : Nat} (h2 : gI a 2 = nI t) (h3 : gI a 3 = nI d) (ht : t ≤ 4) (hd : d ≤ 4) (hc : c < 13) (hal : al < 13) (hem : em < 13) (hN : 20 ≤ N) : ∀ r u acc fuel, u + r = t + 1 → r < fuel → f_X1_sightsBothWays_L17 N (nI c) (nI al) (nI em) a fuel (nI acc) (nI u) = some (nI (acc + zS3 t d c al em u r)) := by
  intro r
  induction r with
  | zero =>
    intro u acc fuel hi hf
    obtain ⟨fu, rfl⟩ : ∃ fu, fuel = fu + 1 := ⟨fuel - 1, by omega⟩
    rw [f_X1_sightsBothWays_L17, h2, if_pos (nI_lt (by omega) (by omega))]; rfl
  | succ r ih =>
    intro u acc fuel hi hf
    obtain ⟨fu, rfl⟩ : ∃ fu, fuel = fu + 1 := ⟨fuel - 1, by omega⟩
    have hl := f1_s29 (N := N) h2 h3 ht hd (show u ≤ t by omega) hc hal hem hN (d + 1) 0 acc N (by omega) (by omega)
    rw [show nI 0 = (0 : Int32) from rfl] at hl
    rw [f_X1_sightsBothWays_L17, h2, if_neg (nI_nlt (by omega) (by omega)), hl, z_sbind, nI_1, ih (u + 1) _ fu (by omega) (by omega), zS3, Nat.add_assoc]
/-- how many sights, as a number -/
def zG (n kd t d c al : Nat) : Nat := if kd = 0 then zU n t else if kd = 3 then 2 * (zU (c + al) t * zU (n - (c + al)) d) - zSB t d c al (n - c - 2 * al) else zU (c + al) t * zU (n - (c + al)) (zex kd d)
theorem f1_sights {a : xT} {n kd t d c al N : Nat} (h : zis a n kd t d) (hb : zbd n kd t d) (hs : c + 2 * al ≤ n) (hN : 20 ≤ N) : f_X1_sights N (nI c) (nI al) a = some (nI (zG n kd t d c al)) := by
  obtain ⟨b1, hn, b3, ht, hd⟩ := id hb
  have he4 : zex kd d ≤ 4 := by unfold zex; split <;> omega
  unfold f_X1_sights zG
  rw [h.1, h.2.1, h.2.2.1]
  by_cases c0 : kd = 0
  · subst c0
    rw [if_pos (show nI 0 = (0 : Int32) from rfl), if_pos rfl, f1_upTo (by omega) (by omega) hN]; rfl
  · rw [if_neg (fun z => c0 ((nI_eq0 (by omega)).mp z)), if_neg c0, nI_add, f1_upTo (by omega) (by omega) hN, z_sbind, f1_extra h hb c0, z_sbind, pk_sub (by omega), f1_upTo (by omega) (by omega) hN, z_sbind, pk_mul]
    by_cases c3 : kd = 3
    · subst c3
      have e1 : (nI n - nI c) - 2 * nI al = nI (n - c - 2 * al) := by
        rw [pk_sub (by omega), show (2 : Int32) = nI 2 from rfl, pk_mul, pk_sub (by omega)]
      have hl := f1_s17 (N := N) h.2.2.1 h.2.2.2 ht hd (show c < 13 by omega) (show al < 13 by omega) (show n - c - 2 * al < 13 by omega) hN (t + 1) 0 0 N (by omega) (by omega)
      rw [show nI 0 = (0 : Int32) from rfl, Nat.zero_add] at hl
      have hle := (z_bw (c := c) (al := al) (em := n - c - 2 * al) ht hd (by omega)).2
      rw [show n - c - 2 * al + al = n - (c + al) by omega] at hle
      unfold f_X1_sightsBothWays
      rw [if_pos (show nI 3 = (3 : Int32) from rfl), if_pos rfl, h.1, e1, hl]
      simp only [z_sbind]
      rw [show (2 : Int32) = nI 2 from rfl, pk_mul, show zex 3 d = d from rfl]
      rw [show zS3 t d c al (n - c - 2 * al) 0 (t + 1) = zSB t d c al (n - c - 2 * al) from rfl, pk_sub (by omega)]
    · rw [if_neg (show ¬ nI kd = 3 from fun z => c3 ((nI_eq3 (by omega)).mp z)), if_neg c3]
theorem zG_rng {n kd t d c al : Nat} (hb : zbd n kd t d) (hs : c + 2 * al ≤ n) : 1 ≤ zG n kd t d c al ∧ zG n kd t d c al < 2 ^ 30 := by
  obtain ⟨b1, hn, b3, ht, hd⟩ := id hb
  have he4 : zex kd d ≤ 4 := by unfold zex; split <;> omega
  have u1 := z_Urng n (by omega) t (by omega)
  have u2 := z_Urng (c + al) (by omega) t (by omega)
  have u3 := z_Urng (n - (c + al)) (by omega) (zex kd d) (by omega)
  have u4 := z_Urng (n - (c + al)) (by omega) d (by omega)
  have hle := (z_bw (c := c) (al := al) (em := n - c - 2 * al) ht hd (by omega)).2
  rw [show n - c - 2 * al + al = n - (c + al) by omega] at hle
  unfold zG
  split
  · omega
  · have m1 : zU (c + al) t * zU (n - (c + al)) d ≤ 4096 * 4096 := Nat.mul_le_mul u2.2 u4.2
    have m2 : zU (c + al) t * zU (n - (c + al)) (zex kd d) ≤ 4096 * 4096 := Nat.mul_le_mul u2.2 u3.2
    have m3 : 1 * 1 ≤ zU (c + al) t * zU (n - (c + al)) d := Nat.mul_le_mul u2.1 u4.1
    have m4 : 1 * 1 ≤ zU (c + al) t * zU (n - (c + al)) (zex kd d) := Nat.mul_le_mul u2.1 u3.1
    split
    · omega
    · omega
/-! the reference's loops -/
theorem f8_b47 {b : xT} {t d c al em p N : Nat} (h2 : gI b 2 = nI t) (h3 : gI b 3 = nI d) (ht : t ≤ 4) (hd : d ≤ 4) (hp : p ≤ al) (hc : c < 13) (hal : al < 12) (hem : em < 13) (hN : 20 ≤ N) : ∀ r q acc fuel, q + r = al + 1 → r < fuel → f_X8_filledByBoth_L47 N (nI al) (nI c) (nI em) (nI p) b fuel (nI acc) (nI q) = some (nI (acc + zF1 t d c al em p q r)) := by
  intro r
  induction r with
  | zero =>
    intro q acc fuel hi hf
    obtain ⟨fu, rfl⟩ : ∃ fu, fuel = fu + 1 := ⟨fuel - 1, by omega⟩
    rw [f_X8_filledByBoth_L47, if_pos (nI_lt (by omega) (by omega))]; rfl
  | succ r ih =>
    intro q acc fuel hi hf
    obtain ⟨fu, rfl⟩ : ∃ fu, fuel = fu + 1 := ⟨fuel - 1, by omega⟩
    have z0 : nI acc + 0 = nI acc := Int32.add_zero _
    have hnext : ∀ x, f_X8_filledByBoth_L47 N (nI al) (nI c) (nI em) (nI p) b fu (nI x) (nI (q + 1)) = some (nI (x + zF1 t d c al em p (q + 1) r)) := fun x => ih (q + 1) x fu (by omega) (by omega)
    have fin : ∀ lo hi : Nat, lo ≤ al → lo = min p q → hi = max p q → (if gI b 2 < nI al - nI lo then f_X8_filledByBoth_L47 N (nI al) (nI c) (nI em) (nI p) b fu (nI acc + 0) (nI q + 1) else if gI b 3 < nI hi then f_X8_filledByBoth_L47 N (nI al) (nI c) (nI em) (nI p) b fu (nI acc + 0) (nI q + 1) else (f_X8_choose N (nI al) (nI p)).bind fun q122 => (f_X8_choose N (nI al) (nI q)).bind fun q128 => (f_X8_upTo N (nI c) (gI b 2 - (nI al - nI lo))).bind fun q140 => (f_X8_upTo N (nI em) (gI b 3 - nI hi)).bind fun q153 => f_X8_filledByBoth_L47 N (nI al) (nI c) (nI em) (nI p) b fu (nI acc + (((q122 * q128) * q140) * q153)) (nI q + 1)) = some (nI (acc + zF1 t d c al em p q (r + 1))) := by
      intro lo hi hlo e1 e2
      rw [h2, h3, pk_sub hlo, z0, nI_1, hnext acc, zF1, ← e1, ← e2]
      by_cases c1 : al - lo ≤ t
      · rw [if_neg (nI_nlt c1 (by omega))]
        by_cases c2 : hi ≤ d
        · rw [if_neg (nI_nlt c2 (by omega)), f8_choose (by omega) (by omega) hN, z_sbind, f8_choose (by omega) (by omega) hN, z_sbind, pk_sub c1, f8_upTo hc (by omega) hN, z_sbind, pk_sub c2, f8_upTo hem (by omega) hN, z_sbind, pk_mul, pk_mul, pk_mul, nI_add, hnext, if_pos ⟨c1, c2⟩, Nat.add_assoc]
        · rw [if_pos (nI_lt (by omega) (by omega)), if_neg (fun z => c2 z.2), Nat.zero_add]
      · rw [if_pos (nI_lt (by omega) (by omega)), if_neg (fun z => c1 z.1), Nat.zero_add]
    rw [f_X8_filledByBoth_L47, if_neg (nI_nlt (by omega) (by omega))]
    by_cases c1 : q ≤ p
    · rw [if_pos (nI_le c1 (by omega))]
      by_cases c2 : p ≤ q
      · rw [if_pos (nI_le c2 (by omega))]
        exact fin q q (by omega) (by omega) (by omega)
      · rw [if_neg (nI_ge (by omega) (by omega))]
        exact fin q p (by omega) (by omega) (by omega)
    · rw [if_neg (nI_ge (by omega) (by omega))]
      by_cases c2 : p ≤ q
      · rw [if_pos (nI_le c2 (by omega))]
        exact fin p q (by omega) (by omega) (by omega)
      · omega
theorem f8_b38 {b : xT} {t d c al em N : Nat} (h2 : gI b 2 = nI t) (h3 : gI b 3 = nI d) (ht : t ≤ 4) (hd : d ≤ 4) (hc : c < 13) (hal : al < 12) (hem : em < 13) (hN : 20 ≤ N) : ∀ r p acc fuel, p + r = al + 1 → r < fuel → f_X8_filledByBoth_L38 N (nI al) (nI c) (nI em) b fuel (nI acc) (nI p) = some (nI (acc + zF2 t d c al em p r)) := by
  intro r
  induction r with
  | zero =>
    intro p acc fuel hi hf
    obtain ⟨fu, rfl⟩ : ∃ fu, fuel = fu + 1 := ⟨fuel - 1, by omega⟩
    rw [f_X8_filledByBoth_L38, if_pos (nI_lt (by omega) (by omega))]; rfl
  | succ r ih =>
    intro p acc fuel hi hf
    obtain ⟨fu, rfl⟩ : ∃ fu, fuel = fu + 1 := ⟨fuel - 1, by omega⟩
    have hl := f8_b47 (N := N) h2 h3 ht hd (show p ≤ al by omega) hc hal hem hN (al + 1) 0 acc N (by omega) (by omega)
    rw [show nI 0 = (0 : Int32) from rfl] at hl
    rw [f_X8_filledByBoth_L38, if_neg (nI_nlt (by omega) (by omega)), hl, z_sbind, nI_1, ih (p + 1) _ fu (by omega) (by omega), zF2, Nat.add_assoc]
