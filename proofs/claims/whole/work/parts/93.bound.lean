/-! bound -/
theorem z_xmin {x y : Nat} (hx : x < 2 ^ 30) (hy : y < 2 ^ 30) : xmin (nI x) (nI y) = nI (min x y) := by
  unfold xmin
  by_cases c : y < x
  · rw [if_pos (nI_lt c (by omega)), show min x y = y by omega]
  · rw [if_neg (nI_nlt (by omega) (by omega)), show min x y = x by omega]
theorem f1_m35 {a : xT} {n kd t d sg tw N : Nat} (v1 : Int32) (h : zis a n kd t d) (hb : zbd n kd t d) (hs : sg + tw ≤ n / 2) (hN : 20 ≤ N) : ∀ r mi acc fuel, mi + r = n % 2 + 1 → acc < 2 ^ 30 → r < fuel → ∃ v, f_X1_leastSights_L35 N v1 (nI sg) (nI tw) a fuel (nI acc) (nI mi) = some (nI v) ∧ v ≤ acc ∧ (∀ x, mi ≤ x → x ≤ n % 2 → v ≤ zG n kd t d (2 * tw + x) sg) ∧ (v = acc ∨ ∃ x, x ≤ n % 2 ∧ v = zG n kd t d (2 * tw + x) sg) := by
  have hn := hb.2.1
  have e0 : nI n - nI n / 2 * 2 = nI (n % 2) := pk_rem (d := 2) (by omega) (by decide) (by decide)
  intro r
  induction r with
  | zero =>
    intro mi acc fuel hm ha hf
    obtain ⟨fu, rfl⟩ : ∃ fu, fuel = fu + 1 := ⟨fuel - 1, by omega⟩
    refine ⟨acc, ?_, Nat.le_refl _, fun x h1 h2 => by omega, Or.inl rfl⟩
    rw [f_X1_leastSights_L35, h.1, e0, if_pos (nI_lt (by omega) (by omega))]
  | succ r ih =>
    intro mi acc fuel hm ha hf
    obtain ⟨fu, rfl⟩ : ∃ fu, fuel = fu + 1 := ⟨fuel - 1, by omega⟩
    have e1 : 2 * nI tw + nI mi = nI (2 * tw + mi) := by rw [show (2 : Int32) = nI 2 from rfl, pk_mul, nI_add]
    have hsh : (2 * tw + mi) + 2 * sg ≤ n := by omega
    have hg := zG_rng hb hsh
    rw [f_X1_leastSights_L35, h.1, e0, if_neg (nI_nlt (by omega) (by omega)), e1, f1_sights h hb hsh hN, z_sbind, z_xmin ha hg.2, nI_1]
    obtain ⟨v, w1, w2, w3, w4⟩ := ih (mi + 1) (min acc (zG n kd t d (2 * tw + mi) sg)) fu (by omega) (by omega) (by omega)
    refine ⟨v, w1, by omega, fun x h1 h2 => ?_, ?_⟩
    · by_cases e : x = mi
      · subst e; omega
      · exact w3 x (by omega) h2
    · rcases w4 with z | z
      · rcases (show min acc (zG n kd t d (2 * tw + mi) sg) = acc ∨ min acc (zG n kd t d (2 * tw + mi) sg) = zG n kd t d (2 * tw + mi) sg by omega) with q | q
        · exact Or.inl (z.trans q)
        · exact Or.inr ⟨mi, by omega, z.trans q⟩
      · exact Or.inr z
theorem f1_m24 {a : xT} {n kd t d sg N : Nat} (h : zis a n kd t d) (hb : zbd n kd t d) (hs : sg ≤ n / 2) (hN : 20 ≤ N) : ∀ r tw acc fuel, tw + r = n / 2 - sg + 1 → acc < 2 ^ 30 → r < fuel → ∃ v, f_X1_leastSights_L24 N (nI (n / 2)) (nI sg) a fuel (nI acc) (nI tw) = some (nI v) ∧ v ≤ acc ∧ (∀ y x, tw ≤ y → y ≤ n / 2 - sg → x ≤ n % 2 → v ≤ zG n kd t d (2 * y + x) sg) ∧ (v = acc ∨ ∃ y x, y ≤ n / 2 - sg ∧ x ≤ n % 2 ∧ v = zG n kd t d (2 * y + x) sg) := by
  have hn := hb.2.1
  have e0 : nI (n / 2) - nI sg = nI (n / 2 - sg) := pk_sub hs
  intro r
  induction r with
  | zero =>
    intro tw acc fuel hm ha hf
    obtain ⟨fu, rfl⟩ : ∃ fu, fuel = fu + 1 := ⟨fuel - 1, by omega⟩
    refine ⟨acc, ?_, Nat.le_refl _, fun y x h1 h2 => by omega, Or.inl rfl⟩
    rw [f_X1_leastSights_L24, e0, if_pos (nI_lt (by omega) (by omega))]
  | succ r ih =>
    intro tw acc fuel hm ha hf
    obtain ⟨fu, rfl⟩ : ∃ fu, fuel = fu + 1 := ⟨fuel - 1, by omega⟩
    obtain ⟨v1, u1, u2, u3, u4⟩ := f1_m35 (N := N) (nI (n / 2)) h hb (show sg + tw ≤ n / 2 by omega) hN (n % 2 + 1) 0 acc N (by omega) ha (by omega)
    rw [show nI 0 = (0 : Int32) from rfl] at u1
    rw [f_X1_leastSights_L24, e0, if_neg (nI_nlt (by omega) (by omega)), u1, z_sbind, nI_1]
    obtain ⟨v, w1, w2, w3, w4⟩ := ih (tw + 1) v1 fu (by omega) (by omega) (by omega)
    refine ⟨v, w1, by omega, fun y x h1 h2 h3 => ?_, ?_⟩
    · by_cases e : y = tw
      · subst e
        have := u3 x (Nat.zero_le _) h3
        omega
      · exact w3 y x (by omega) h2 h3
    · rcases w4 with z | z
      · rcases u4 with q | ⟨x, q1, q2⟩
        · exact Or.inl (z.trans q)
        · exact Or.inr ⟨tw, x, by omega, q1, z.trans q2⟩
      · exact Or.inr z
theorem f1_m16 {a : xT} {n kd t d N : Nat} (h : zis a n kd t d) (hb : zbd n kd t d) (hN : 20 ≤ N) : ∀ r sg acc fuel, sg + r = n / 2 + 1 → acc < 2 ^ 30 → r < fuel → ∃ v, f_X1_leastSights_L16 N (nI (n / 2)) a fuel (nI acc) (nI sg) = some (nI v) ∧ v ≤ acc ∧ (∀ s y x, sg ≤ s → s ≤ n / 2 → y ≤ n / 2 - s → x ≤ n % 2 → v ≤ zG n kd t d (2 * y + x) s) ∧ (v = acc ∨ ∃ s y x, s ≤ n / 2 ∧ y ≤ n / 2 - s ∧ x ≤ n % 2 ∧ v = zG n kd t d (2 * y + x) s) := by
  have hn := hb.2.1
  intro r
  induction r with
  | zero =>
    intro sg acc fuel hm ha hf
    obtain ⟨fu, rfl⟩ : ∃ fu, fuel = fu + 1 := ⟨fuel - 1, by omega⟩
    refine ⟨acc, ?_, Nat.le_refl _, fun s y x h1 h2 => by omega, Or.inl rfl⟩
    rw [f_X1_leastSights_L16, if_pos (nI_lt (by omega) (by omega))]
  | succ r ih =>
    intro sg acc fuel hm ha hf
    obtain ⟨fu, rfl⟩ : ∃ fu, fuel = fu + 1 := ⟨fuel - 1, by omega⟩
    obtain ⟨v1, u1, u2, u3, u4⟩ := f1_m24 (N := N) h hb (show sg ≤ n / 2 by omega) hN (n / 2 - sg + 1) 0 acc N (by omega) ha (by omega)
    rw [show nI 0 = (0 : Int32) from rfl] at u1
    rw [f_X1_leastSights_L16, if_neg (nI_nlt (by omega) (by omega)), u1, z_sbind, nI_1]
    obtain ⟨v, w1, w2, w3, w4⟩ := ih (sg + 1) v1 fu (by omega) (by omega) (by omega)
    refine ⟨v, w1, by omega, fun s y x h1 h2 h3 h4 => ?_, ?_⟩
    · by_cases e : s = sg
      · subst e
        have := u3 y x (Nat.zero_le _) h3 h4
        omega
      · exact w3 s y x (by omega) h2 h3 h4
    · rcases w4 with z | z
      · rcases u4 with q | ⟨y, x, q1, q2, q3⟩
        · exact Or.inl (z.trans q)
        · exact Or.inr ⟨sg, y, x, by omega, q1, q2, z.trans q3⟩
      · exact Or.inr z
theorem f8_b15 {b : xT} {n kd t d N : Nat} (h : zis b n kd t d) (hb : zbd n kd t d) (hN : 20 ≤ N) : ∀ r m acc fuel, m + r = 2 ^ n → acc < 2 ^ 30 → r < fuel → ∃ v, f_X8_bound_L15 N (nI (2 ^ n)) b fuel (nI acc) (nI m) = some (nI v) ∧ v ≤ acc ∧ (∀ x, m ≤ x → x < 2 ^ n → v ≤ zG n kd t d (zsc n x) (zsa n x)) ∧ (v = acc ∨ ∃ x, x < 2 ^ n ∧ v = zG n kd t d (zsc n x) (zsa n x)) := by
  have hn := hb.2.1
  have hp := z_pow n (by omega)
  intro r
  induction r with
  | zero =>
    intro m acc fuel hm ha hf
    obtain ⟨fu, rfl⟩ : ∃ fu, fuel = fu + 1 := ⟨fuel - 1, by omega⟩
    refine ⟨acc, ?_, Nat.le_refl _, fun x h1 h2 => by omega, Or.inl rfl⟩
    rw [f_X8_bound_L15, if_pos (nI_le (by omega) (by omega))]
  | succ r ih =>
    intro m acc fuel hm ha hf
    obtain ⟨fu, rfl⟩ : ∃ fu, fuel = fu + 1 := ⟨fuel - 1, by omega⟩
    have hml : m < 2 ^ n := by omega
    have hg := zG_rng hb (z_shp hn hml).2.1
    have key : ∀ q, q = min acc (zG n kd t d (zsc n m) (zsa n m)) → ∃ v, f_X8_bound_L15 N (nI (2 ^ n)) b fu (nI q) (nI (m + 1)) = some (nI v) ∧ v ≤ acc ∧ (∀ x, m ≤ x → x < 2 ^ n → v ≤ zG n kd t d (zsc n x) (zsa n x)) ∧ (v = acc ∨ ∃ x, x < 2 ^ n ∧ v = zG n kd t d (zsc n x) (zsa n x)) := by
      intro q hq
      obtain ⟨v, w1, w2, w3, w4⟩ := ih (m + 1) q fu (by omega) (by omega) (by omega)
      refine ⟨v, w1, by omega, fun x h1 h2 => ?_, ?_⟩
      · by_cases e : x = m
        · subst e; omega
        · exact w3 x (by omega) h2
      · rcases w4 with z | z
        · rcases (show q = acc ∨ q = zG n kd t d (zsc n m) (zsa n m) by omega) with q' | q'
          · exact Or.inl (z.trans q')
          · exact Or.inr ⟨m, hml, z.trans q'⟩
        · exact Or.inr z
    rw [f_X8_bound_L15, if_neg (nI_ge (by omega) (by omega)), f8_filled h hb hml hN, z_sbind, nI_1]
    by_cases c : acc ≤ zG n kd t d (zsc n m) (zsa n m)
    · rw [if_pos (nI_le c (by omega))]
      exact key acc (by omega)
    · rw [if_neg (nI_ge (by omega) (by omega))]
      exact key _ (by omega)
def zmk (n s w mi : Nat) : Nat := ((2 ^ (s + w) - 1) ||| zrev n ((2 ^ (s + w) - 1) - (2 ^ s - 1))) ||| (mi * 2 ^ (n / 2))
def zmkb (n s w mi : Nat) : Bool := decide (zmk n s w mi < 2 ^ n) && (decide (zsc n (zmk n s w mi) = 2 * w + mi) && decide (zsa n (zmk n s w mi) = s))
def zmkc (n s w mi : Nat) : Bool := !(decide (2 ≤ n) && (decide (s + w ≤ n / 2) && decide (mi ≤ n % 2))) || zmkb n s w mi
theorem z_mkb : ∀ n, n < 13 → ∀ s, s < 7 → ∀ w, w < 7 → ∀ mi, mi < 2 → zmkc n s w mi = true := by decide +kernel
theorem z_mk {n s w mi : Nat} (hn : n ≤ 12) (h2 : 2 ≤ n) (hs : s + w ≤ n / 2) (hm : mi ≤ n % 2) : zmk n s w mi < 2 ^ n ∧ zsc n (zmk n s w mi) = 2 * w + mi ∧ zsa n (zmk n s w mi) = s := by
  have h := z_mkb n (by omega) s (by omega) w (by omega) mi (by omega)
  unfold zmkc at h
  rw [decide_eq_true h2, decide_eq_true hs, decide_eq_true hm, Bool.and_self, Bool.and_self, Bool.not_true, Bool.false_or] at h
  unfold zmkb at h
  simp only [Bool.and_eq_true, decide_eq_true_eq] at h
  exact h
theorem f8_60_end {b : xT} {n kd t d N : Nat} (v2 : Int32) (h : zis b n kd t d) (hb : zbd n kd t d) : ∀ r i (acc : Int32) fuel, i + r = t + 1 → n < i → r < fuel → f_X8_bound_L60 N v2 b fuel acc (nI i) = some acc := by
  intro r
  have hn := hb.2.1
  have ht := hb.2.2.2.1
  induction r with
  | zero =>
    intro i acc fuel hi hin hf
    obtain ⟨fu, rfl⟩ : ∃ fu, fuel = fu + 1 := ⟨fuel - 1, by omega⟩
    rw [f_X8_bound_L60, h.2.2.1, if_pos (nI_lt (by omega) (by omega))]
  | succ r ih =>
    intro i acc fuel hi hin hf
    obtain ⟨fu, rfl⟩ : ∃ fu, fuel = fu + 1 := ⟨fuel - 1, by omega⟩
    rw [f_X8_bound_L60, h.2.2.1, if_neg (nI_nlt (by omega) (by omega)), h.1, if_neg (nI_ge hin (by omega)), Int32.add_zero, nI_1]
    exact ih (i + 1) acc fu (by omega) (by omega) (by omega)
theorem z_sum60 {a b : xT} {n kd t d N : Nat} (v2 : Int32) (ha : zis a n kd t d) (hB : zis b n kd t d) (hb : zbd n kd t d) (hN : 20 ≤ N) : ∀ r i (acc : Int32) f1 f2, i + r = t + 1 → r < f1 → r < f2 → ∃ v, f_X1_allSights_L18 N a f1 acc (nI i) = some v ∧ f_X8_bound_L60 N v2 b f2 acc (nI i) = some v := by
  have hn := hb.2.1
  have ht := hb.2.2.2.1
  intro r
  induction r with
  | zero =>
    intro i acc f1 f2 hi hf1 hf2
    obtain ⟨fu, rfl⟩ : ∃ fu, f1 = fu + 1 := ⟨f1 - 1, by omega⟩
    obtain ⟨gu, rfl⟩ : ∃ gu, f2 = gu + 1 := ⟨f2 - 1, by omega⟩
    rw [f_X1_allSights_L18, f_X8_bound_L60, ha.2.2.1, hB.2.2.1, if_pos (nI_lt (by omega) (by omega)), if_pos (nI_lt (by omega) (by omega))]
    exact ⟨_, rfl, rfl⟩
  | succ r ih =>
    intro i acc f1 f2 hi hf1 hf2
    obtain ⟨fu, rfl⟩ : ∃ fu, f1 = fu + 1 := ⟨f1 - 1, by omega⟩
    obtain ⟨gu, rfl⟩ : ∃ gu, f2 = gu + 1 := ⟨f2 - 1, by omega⟩
    by_cases c : n < i
    · rw [f8_60_end v2 hB hb (r + 1) i acc (gu + 1) hi c (by omega), f_X1_allSights_L18, ha.2.2.1, if_neg (nI_nlt (by omega) (by omega)), ha.1, if_pos (nI_lt c (by omega))]
      exact ⟨_, rfl, rfl⟩
    · rw [f_X1_allSights_L18, f_X8_bound_L60, ha.2.2.1, hB.2.2.1, if_neg (nI_nlt (by omega) (by omega)), if_neg (nI_nlt (by omega) (by omega)), ha.1, hB.1, if_neg (nI_nlt (by omega) (by omega)), if_pos (nI_le (by omega) (by omega)), f1_choose (by omega) (by omega) hN, z_sbind, f8_choose (by omega) (by omega) hN, z_sbind, nI_1]
      exact ih (i + 1) _ fu gu (by omega) (by omega) (by omega)
theorem p_bound {N : Nat} (hN : 5000 ≤ N) : xP_bound N zInv := by
  intro a b hI
  obtain ⟨n, kd, t, d, hb, ha, hB, -⟩ := id hI
  have hn := hb.2.1
  have hp := z_pow n (by omega)
  have h3 := hb.2.2.1
  have e2 : nI n / 2 = nI (n / 2) := pk_div (d := 2) (by omega) (by decide) (by decide)
  have hg0 := zG_rng (c := 0) (al := 0) hb (by omega)
  obtain ⟨v, w1, w2, w3, w4⟩ := f1_m16 (N := N) ha hb (by omega) (n / 2 + 1) 0 (zG n kd t d 0 0) N (by omega) hg0.2 (by omega)
  have hgm := zG_rng hb (z_shp hn (Nat.two_pow_pos n)).2.1
  obtain ⟨u, x1, x2, x3, x4⟩ := f8_b15 (N := N) hB hb (by omega) (2 ^ n - 1) 1 (zG n kd t d (zsc n 0) (zsa n 0)) N (by omega) hgm.2 (by omega)
  have x3' : ∀ x, x < 2 ^ n → u ≤ zG n kd t d (zsc n x) (zsa n x) := fun x hx => by
    by_cases e : x = 0
    · subst e; exact x2
    · exact x3 x (by omega) hx
  have x4' : ∃ x, x < 2 ^ n ∧ u = zG n kd t d (zsc n x) (zsa n x) := by
    rcases x4 with z | z
    · exact ⟨0, Nat.two_pow_pos n, z⟩
    · exact z
  have w4' : ∃ s y x, s ≤ n / 2 ∧ y ≤ n / 2 - s ∧ x ≤ n % 2 ∧ v = zG n kd t d (2 * y + x) s := by
    rcases w4 with z | z
    · exact ⟨0, 0, 0, by omega, by omega, by omega, z⟩
    · exact z
  have huv : v = u := by
    obtain ⟨x, hx, eu⟩ := x4'
    obtain ⟨s, y, z, hs, hy, hz, ev⟩ := w4'
    obtain ⟨g1, g2, g3, g4⟩ := z_shp hn hx
    have k1 := w3 (zsa n x) (zsc n x / 2) (zsc n x % 2) (Nat.zero_le _) (by omega) (by omega) g4
    rw [show 2 * (zsc n x / 2) + zsc n x % 2 = zsc n x by omega, ← eu] at k1
    obtain ⟨m1, m2, m3⟩ := z_mk (n := n) (s := s) (w := y) (mi := z) hn hb.1 (by omega) hz
    have k2 := x3' _ m1
    rw [m2, m3, ← ev] at k2
    omega
  subst huv
  have hv1 : 1 ≤ v ∧ v < 2 ^ 30 := by
    obtain ⟨x, hx, eu⟩ := x4'
    rw [eu]
    exact zG_rng hb (z_shp hn hx).2.1
  have hs0 := f1_sights (N := N) (c := 0) (al := 0) ha hb (by omega) (by omega)
  have hf0 := f8_filled (N := N) hB hb (Nat.two_pow_pos n) (by omega)
  rw [show nI 0 = (0 : Int32) from rfl] at hs0 hf0 w1
  rw [show nI 1 = (1 : Int32) from rfl] at x1
  unfold f_X7_bound f_X8_bound f_X1_leastSights f_X1_allSights
  rw [hs0, hf0, ha.1, hB.1, e2, z_one n (by omega), ha.2.1, hB.2.1]
  simp only [z_sbind]
  rw [w1, x1]
  simp only [z_sbind]
  have hv0 : ¬ nI v ≤ 0 := nI_ge (a := 0) (by omega) (by omega)
  have hv2 : ¬ nI v = 0 := fun z => by rw [nI_eq0 (by omega)] at z; omega
  rw [if_neg hv0]
  by_cases c0 : kd = 0
  · subst c0
    obtain ⟨q, q1, q2⟩ := z_sum60 (N := N) (nI v) ha hB hb (by omega) (t + 1) 0 0 N N (by omega) (by have := hb.2.2.2.1; omega) (by have := hb.2.2.2.1; omega)
    rw [show nI 0 = (0 : Int32) from rfl] at q1 q2
    rw [if_pos (show nI 0 = (0 : Int32) from rfl), if_pos (show nI 0 = (0 : Int32) from rfl), q1, q2]
    simp only [z_sbind, if_pos hv2]
    exact ⟨_, rfl, rfl, hI⟩
  · have hk0 : ¬ nI kd = 0 := fun z => c0 ((nI_eq0 (by omega)).mp z)
    simp only [if_neg hk0, z_sbind, if_pos hv2]
    exact ⟨_, rfl, rfl, hI⟩
