/-! the reference goes on from one set to the next -/
def zst (b : xT) (c : List Nat) : Prop := (c = [] ∧ gI b 31 = nI 1 ∧ gA b 59 0 = -1) ∨ (c ≠ [] ∧ gI b 31 = nI c.length ∧ ∀ t, t < c.length → gA b 59 t = nI (c.getD t 0))
def zcv (len : Nat) : List Nat → Prop
  | [] => True
  | [i] => i < len
  | [i, j] => i < j ∧ j < len
  | [i, j, l] => i < j ∧ j < l ∧ l < len
  | _ => False
def zgf (b b2 : xT) : Prop := (∀ j, j ≠ 31 → gI b2 j = gI b j) ∧ (∀ c j, c ≠ 59 → gA b2 c j = gA b c j) ∧ ∀ j, gJ b2 j = gJ b j
theorem zgf_tr {a b c : xT} (h : zgf a b) (g : zgf b c) : zgf a c := ⟨fun j hj => (g.1 j hj).trans (h.1 j hj), fun x j hx => (g.2.1 x j hx).trans (h.2.1 x j hx), fun j => (g.2.2 j).trans (h.2.2 j)⟩
theorem g7_stop {b : xT} {k len p t x fu : Nat} (v2 : Int32) (hk : k < 6) (h45 : gA b 45 k = nI len) (hl : len ≤ 64) (ht : t < 3) (hx : gA b 59 t = nI x) (h31 : gI b 31 = nI p) (hp : p ≤ len) (hx2 : x < 64) (h : x < len - p + t) : f_X8_goOn_L7 (nI k) v2 b (fu + 1) (nI t) = some (nI t) := by
  rw [f_X8_goOn_L7, if_neg (nI_pos (by omega)), if_pos (z_xin ht (by decide)), if_pos (z_xin hk (by decide)), nI_clamp (n := t) (by omega), nI_clamp (n := k) (by omega), hx, h45, h31, pk_sub hp, nI_add, if_pos (nI_lt h (by omega))]
theorem g7_next {b : xT} {k len p t x fu : Nat} (v2 : Int32) (hk : k < 6) (h45 : gA b 45 k = nI len) (hl : len ≤ 64) (ht : t < 3) (hx : gA b 59 t = nI x) (h31 : gI b 31 = nI p) (hp : p ≤ len) (hx2 : x < 64) (h : ¬ x < len - p + t) : f_X8_goOn_L7 (nI k) v2 b (fu + 1) (nI t) = f_X8_goOn_L7 (nI k) v2 b fu (nI t + (-1)) := by
  rw [f_X8_goOn_L7, if_neg (nI_pos (by omega)), if_pos (z_xin ht (by decide)), if_pos (z_xin hk (by decide)), nI_clamp (n := t) (by omega), nI_clamp (n := k) (by omega), hx, h45, h31, pk_sub hp, nI_add, if_neg (nI_nlt (by omega) (by omega))]
theorem g7_end {b : xT} {fu : Nat} (v1 v2 : Int32) : f_X8_goOn_L7 v1 v2 b (fu + 1) (-1) = some (-1) := by
  rw [f_X8_goOn_L7, if_pos (by decide)]
theorem g112 {p : Nat} (v1 v2 : Int32) (hp : p < 4) : ∀ r t x b fuel, t + r = p → 1 ≤ t → gI b 31 = nI p → gA b 59 (t - 1) = nI x → r < fuel → ∃ b2, f_X8_goOn_L112 v1 v2 fuel (nI t) b = some b2 ∧ (∀ u, u < t → gA b2 59 u = gA b 59 u) ∧ (∀ u, t ≤ u → u < p → gA b2 59 u = nI (x + 1 + (u - t))) ∧ (∀ j, gI b2 j = gI b j) ∧ (∀ c j, c ≠ 59 → gA b2 c j = gA b c j) ∧ ∀ j, gJ b2 j = gJ b j := by
  intro r
  induction r with
  | zero =>
    intro t x b fuel ht h1 h31 hx hf
    obtain ⟨fu, rfl⟩ : ∃ fu, fuel = fu + 1 := ⟨fuel - 1, by omega⟩
    refine ⟨b, ?_, fun _ _ => rfl, fun u hu hu2 => by omega, fun _ => rfl, fun _ _ _ => rfl, fun _ => rfl⟩
    rw [f_X8_goOn_L112, h31, if_pos (nI_le (by omega) (by omega))]
  | succ r ih =>
    intro t x b fuel ht h1 h31 hx hf
    obtain ⟨fu, rfl⟩ : ∃ fu, fuel = fu + 1 := ⟨fuel - 1, by omega⟩
    have e1 : nI t - 1 = nI (t - 1) := pk_sub (b := 1) h1
    rw [f_X8_goOn_L112, h31, if_neg (nI_ge (by omega) (by omega)), if_neg (show ¬ (4 : Int32) ≤ nI p from nI_ge (b := 4) hp (by decide)), e1, if_pos (z_xin (by omega) (by decide)), if_pos (z_xin (by omega) (by decide)), nI_clamp (n := t) (by omega), nI_clamp (n := t - 1) (by omega), hx, nI_1, nI_1]
    have hx2 : gA (sA b 59 (upd (gA b 59) t (nI (x + 1)))) 59 (t + 1 - 1) = nI (x + 1) := by
      rw [gA_sA, if_pos rfl, upd_at, if_pos (by omega)]
    obtain ⟨b2, w0, w1, w2, w3, w4, w5⟩ := ih (t + 1) (x + 1) (sA b 59 (upd (gA b 59) t (nI (x + 1)))) fu (by omega) (by omega) h31 hx2 (by omega)
    refine ⟨b2, w0, fun u hu => ?_, fun u hu hu2 => ?_, w3, fun c j hc => ?_, w5⟩
    · rw [w1 u (by omega), gA_sA, if_pos rfl, upd_at, if_neg (by omega)]
    · by_cases e : u = t
      · subst e
        rw [w1 u (by omega), gA_sA, if_pos rfl, upd_at, if_pos rfl]
        congr 1; omega
      · rw [w2 u (by omega) hu2]
        congr 1; omega
    · rw [w4 c j hc, gA_sA, if_neg hc]
theorem g_tail {b2 : xT} {k len p h : Nat} (hk : k < 6) (hh : h ≤ 3) (hp : p ≤ 4) (hl : len ≤ 64) (h31 : gI b2 31 = nI p) (h45 : gA b2 45 k = nI len) : (if nI h < gI b2 31 then some ((0 : Int32), b2) else if xin (nI k) 6 then (if gA b2 45 (Int32.toNatClampNeg (nI k)) < gI b2 31 then some (0, b2) else some (1, b2)) else none) = some (bI (decide (p ≤ h) && decide (p ≤ len)), b2) := by
  have hx6 := z_xin (n := 6) hk (by decide)
  simp only [h31, nI_clamp (show k < 2 ^ 31 by omega), h45, if_pos hx6]
  by_cases c1 : p ≤ h
  · rw [if_neg (nI_nlt c1 (by omega))]
    by_cases c2 : p ≤ len
    · rw [if_neg (nI_nlt c2 (by omega))]; simp [c1, c2, bI]
    · rw [if_pos (nI_lt (by omega) (by omega))]; simp [c1, c2, bI]
  · rw [if_pos (nI_lt (by omega) (by omega))]; simp [c1, bI]
theorem z_x03 : xin 0 3 := z_xin (k := 0) (n := 3) (by decide) (by decide)
/-- one of those that stand goes up by one, those behind it follow -/
theorem g_adv {b : xT} {k len p t x h N : Nat} (hk : k < 6) (hl : len ≤ 64) (hh : h ≤ 3) (h45 : gA b 45 k = nI len) (h31 : gI b 31 = nI p) (hp : p < 4) (ht : t < p) (hx : gA b 59 t = nI x) (h0 : gA b 59 0 ≠ -1) (h7 : f_X8_goOn_L7 (nI k) (nI h) b N (gI b 31 - 1) = some (nI t)) (hN : 10 ≤ N) : ∃ b2, f_X8_goOn N (nI k) (nI h) b = some (bI (decide (p ≤ h) && decide (p ≤ len)), b2) ∧ gI b2 31 = nI p ∧ (∀ u, u < t → gA b2 59 u = gA b 59 u) ∧ (∀ u, t ≤ u → u < p → gA b2 59 u = nI (x + 1 + (u - t))) ∧ zgf b b2 := by
  unfold f_X8_goOn
  have hxt := z_xin (k := t) (n := 3) (by omega) (by decide)
  have hnt : ¬ nI t < 0 := nI_pos (by omega)
  rw [h7, z_sbind]
  simp only [if_pos z_x03, z_clamp0, if_neg h0, if_neg hnt, if_pos hxt, nI_clamp (show t < 2 ^ 31 by omega), hx, nI_1]
  have hx2 : gA (sA b 59 (upd (gA b 59) t (nI (x + 1)))) 59 (t + 1 - 1) = nI (x + 1) := by
    rw [gA_sA, if_pos rfl, upd_at, if_pos (by omega)]
  obtain ⟨b2, w0, w1, w2, w3, w4, w5⟩ := g112 (nI k) (nI h) hp (p - (t + 1)) (t + 1) (x + 1) (sA b 59 (upd (gA b 59) t (nI (x + 1)))) N (by omega) (by omega) h31 hx2 (by omega)
  have e31 : gI b2 31 = nI p := (w3 31).trans h31
  have e45 : gA b2 45 k = nI len := by rw [w4 45 k (by decide), gA_sA, if_neg (by decide)]; exact h45
  rw [w0, z_sbind, g_tail hk hh (by omega) hl e31 e45]
  refine ⟨b2, rfl, e31, fun u hu => ?_, fun u hu hu2 => ?_, fun j _ => w3 j, fun c j hc => ?_, w5⟩
  · rw [w1 u (by omega), gA_sA, if_pos rfl, upd_at, if_neg (by omega)]
  · by_cases e : u = t
    · subst e
      rw [w1 u (by omega), gA_sA, if_pos rfl, upd_at, if_pos rfl]
      congr 1; omega
    · rw [w2 u (by omega) hu2]
      congr 1; omega
  · rw [w4 c j hc, gA_sA, if_neg hc]
/-- one more than before, from the first on -/
theorem g_grow {b : xT} {k len p h N : Nat} (hk : k < 6) (hl : len ≤ 64) (hh : h ≤ 3) (h45 : gA b 45 k = nI len) (h31 : gI b 31 = nI p) (hp : p < 4) (h0 : gA b 59 0 ≠ -1) (h7 : f_X8_goOn_L7 (nI k) (nI h) b N (gI b 31 - 1) = some (-1)) (hN : 10 ≤ N) : ∃ b2, f_X8_goOn N (nI k) (nI h) b = some (bI (decide (p + 1 ≤ h) && decide (p + 1 ≤ len)), b2) ∧ gI b2 31 = nI (p + 1) ∧ (p + 1 < 4 → ∀ u, u < p + 1 → gA b2 59 u = nI u) ∧ zgf b b2 := by
  unfold f_X8_goOn
  have hm1 : (-1 : Int32) < 0 := by decide
  rw [h7, z_sbind]
  simp only [if_pos z_x03, z_clamp0, if_neg h0, if_pos hm1, h31, nI_1]
  have h31' : gI (sA (sI b 31 (nI (p + 1))) 59 (upd (gA b 59) 0 0)) 31 = nI (p + 1) := by rw [gI_sA, gI_sI, if_pos rfl]
  have hx2 : gA (sA (sI b 31 (nI (p + 1))) 59 (upd (gA b 59) 0 0)) 59 (1 - 1) = nI 0 := by
    rw [gA_sA, if_pos rfl, upd_at, if_pos rfl]; rfl
  rw [show (0 : Int32) + 1 = nI 1 from rfl]
  by_cases c : p + 1 < 4
  · obtain ⟨b2, w0, w1, w2, w3, w4, w5⟩ := g112 (nI k) (nI h) c p 1 0 _ N (by omega) (by omega) h31' hx2 (by omega)
    have e31 : gI b2 31 = nI (p + 1) := (w3 31).trans h31'
    have e45 : gA b2 45 k = nI len := by rw [w4 45 k (by decide), gA_sA, if_neg (by decide)]; exact h45
    rw [w0, z_sbind, g_tail hk hh (by omega) hl e31 e45]
    refine ⟨b2, rfl, e31, fun _ u hu => ?_, fun j hj => ?_, fun c j hc => ?_, w5⟩
    · by_cases e : u = 0
      · subst e
        rw [w1 0 (by omega), gA_sA, if_pos rfl, upd_at, if_pos rfl]; rfl
      · rw [w2 u (by omega) hu]
        congr 1; omega
    · rw [w3 j, gI_sA, gI_sI, if_neg hj]
    · rw [w4 c j hc, gA_sA, if_neg hc]; rfl
  · have ep : p = 3 := by omega
    subst ep
    obtain ⟨fu, rfl⟩ : ∃ fu, N = fu + 1 := ⟨N - 1, by omega⟩
    rw [f_X8_goOn_L112, h31', if_neg (show ¬ nI (3 + 1) ≤ nI 1 by decide), if_pos (show (4 : Int32) ≤ nI (3 + 1) by decide), z_sbind, g_tail hk hh (by omega) hl h31' (show gA (sA (sI b 31 (nI (3 + 1))) 59 (upd (gA b 59) 0 0)) 45 k = nI len by rw [gA_sA, if_neg (by decide)]; exact h45)]
    refine ⟨_, rfl, h31', fun z => absurd z c, fun j hj => ?_, fun c j hc => ?_, fun j => rfl⟩
    · rw [gI_sA, gI_sI, if_neg hj]
    · rw [gA_sA, if_neg hc]; rfl
theorem zst_1 {b : xT} {i : Nat} (h1 : gI b 31 = nI 1) (h2 : gA b 59 0 = nI i) : zst b [i] := Or.inr ⟨by simp, h1, fun t ht => by
  have : t = 0 := by simp at ht; omega
  subst this; exact h2⟩
theorem zst_2 {b : xT} {i j : Nat} (h1 : gI b 31 = nI 2) (h2 : gA b 59 0 = nI i) (h3 : gA b 59 1 = nI j) : zst b [i, j] := Or.inr ⟨by simp, h1, fun t ht => by
  have : t = 0 ∨ t = 1 := by simp at ht; omega
  rcases this with rfl | rfl
  · exact h2
  · exact h3⟩
theorem zst_3 {b : xT} {i j l : Nat} (h1 : gI b 31 = nI 3) (h2 : gA b 59 0 = nI i) (h3 : gA b 59 1 = nI j) (h4 : gA b 59 2 = nI l) : zst b [i, j, l] := Or.inr ⟨by simp, h1, fun t ht => by
  have : t = 0 ∨ t = 1 ∨ t = 2 := by simp at ht; omega
  rcases this with rfl | rfl | rfl
  · exact h2
  · exact h3
  · exact h4⟩
theorem bI_t {p q : Prop} [Decidable p] [Decidable q] (h1 : p) (h2 : q) : bI (decide p && decide q) = 1 := by simp [h1, h2, bI]
theorem bI_f {p q : Prop} [Decidable p] [Decidable q] (h : ¬ (p ∧ q)) : bI (decide p && decide q) = 0 := by
  by_cases h1 : p
  · have h2 : ¬ q := fun z => h ⟨h1, z⟩
    simp [h1, h2, bI]
  · simp [h1, bI]
theorem f8_goOn {b : xT} {k len h N : Nat} {c : List Nat} (hk : k < 6) (h45 : gA b 45 k = nI len) (hl : len ≤ 64) (h1 : 1 ≤ h) (h3 : h ≤ 3) (hs : zst b c) (hv : zcv len c) (hch : c.length ≤ h) (hN : 10 ≤ N) : ∃ b2, zgf b b2 ∧ ((znx len h c = none ∧ f_X8_goOn N (nI k) (nI h) b = some (0, b2)) ∨ ∃ c2, znx len h c = some c2 ∧ f_X8_goOn N (nI k) (nI h) b = some (1, b2) ∧ zst b2 c2 ∧ zcv len c2 ∧ c2.length ≤ h) := by
  have eN : ∃ fu, N = fu + 1 + 1 + 1 + 1 + 1 := ⟨N - 5, by omega⟩
  have m10 : nI 1 + (-1) = nI 0 := by decide
  have m00 : nI 0 + (-1) = -1 := by decide
  have m21 : nI 2 + (-1) = nI 1 := by decide
  match c, hv, hs, hch with
  | [], _, hs, _ =>
    obtain ⟨-, s1, s2⟩ : ([] : List Nat) = [] ∧ gI b 31 = nI 1 ∧ gA b 59 0 = -1 := hs.resolve_right (fun z => z.1 rfl)
    have h7 : ∃ q, f_X8_goOn_L7 (nI k) (nI h) b N (gI b 31 - 1) = some q := by
      obtain ⟨fu, rfl⟩ := eN
      rw [s1, show nI 1 - 1 = nI 0 from rfl, f_X8_goOn_L7, if_neg (by decide), if_pos (show xin (nI 0) 3 from z_x03), if_pos (z_xin hk (by decide))]
      by_cases q : gA b 59 (Int32.toNatClampNeg (nI 0)) < gA b 45 (Int32.toNatClampNeg (nI k)) - gI b 31 + nI 0
      · rw [if_pos q]; exact ⟨_, rfl⟩
      · rw [if_neg q, m00, g7_end]; exact ⟨_, rfl⟩
    obtain ⟨q, h7⟩ := h7
    unfold f_X8_goOn
    have hx6 := z_xin (n := 6) hk (by decide)
    rw [h7, z_sbind]
    simp only [if_pos z_x03, z_clamp0, if_pos s2, if_pos hx6, nI_clamp (show k < 2 ^ 31 by omega), h45]
    have hg : zgf b (sA b 59 (upd (gA b 59) 0 0)) := ⟨fun _ _ => rfl, fun c j hc => by rw [gA_sA, if_neg hc], fun _ => rfl⟩
    refine ⟨_, hg, ?_⟩
    by_cases q0 : 0 < len
    · right
      refine ⟨[0], if_pos q0, ?_, zst_1 s1 ?_, q0, h1⟩
      · rw [if_neg (show ¬ nI len ≤ (0 : Int32) from nI_ge (a := 0) q0 (by omega))]
      · rw [gA_sA, if_pos rfl, upd_at, if_pos rfl]; rfl
    · left
      refine ⟨if_neg q0, ?_⟩
      rw [if_pos (show nI len ≤ (0 : Int32) from nI_le (b := 0) (by omega) (by decide))]
  | [i], hv, hs, hch =>
    obtain ⟨-, s1, s2⟩ := hs.resolve_left (fun z => by simp at z)
    have hi : i < len := hv
    have p0 : gA b 59 0 = nI i := s2 0 (by simp)
    have h0 : gA b 59 0 ≠ -1 := by rw [p0]; exact nI_nneg (by omega)
    replace s1 : gI b 31 = nI 1 := s1
    by_cases c1 : i + 1 < len
    · have h7 : f_X8_goOn_L7 (nI k) (nI h) b N (gI b 31 - 1) = some (nI 0) := by
        obtain ⟨fu, rfl⟩ := eN
        rw [s1, show nI 1 - 1 = nI 0 from rfl, g7_stop _ hk h45 hl (by decide) p0 s1 (by omega) (by omega) (by omega)]
      obtain ⟨b2, w0, w1, w2, w3, w4⟩ := g_adv hk hl h3 h45 s1 (by decide) (by decide) p0 h0 h7 hN
      rw [bI_t h1 (by omega)] at w0
      exact ⟨b2, w4, Or.inr ⟨[i + 1], if_pos c1, w0, zst_1 w1 (w3 0 (by decide) (by decide)), c1, hch⟩⟩
    · have h7 : f_X8_goOn_L7 (nI k) (nI h) b N (gI b 31 - 1) = some (-1) := by
        obtain ⟨fu, rfl⟩ := eN
        rw [s1, show nI 1 - 1 = nI 0 from rfl, g7_next _ hk h45 hl (by decide) p0 s1 (by omega) (by omega) (by omega), m00, g7_end]
      obtain ⟨b2, w0, w1, w2, w3⟩ := g_grow hk hl h3 h45 s1 (by decide) h0 h7 hN
      refine ⟨b2, w3, ?_⟩
      by_cases c2 : 2 ≤ h ∧ 2 ≤ len
      · rw [bI_t c2.1 c2.2] at w0
        have g := w2 (by decide)
        exact Or.inr ⟨[0, 1], by show (if _ then _ else _) = _; rw [if_neg c1, if_pos c2], w0, zst_2 w1 (g 0 (by decide)) (g 1 (by decide)), ⟨by decide, c2.2⟩, c2.1⟩
      · rw [bI_f c2] at w0
        exact Or.inl ⟨by show (if _ then _ else _) = _; rw [if_neg c1, if_neg c2], w0⟩
  | [i, j], hv, hs, hch =>
    obtain ⟨-, s1, s2⟩ := hs.resolve_left (fun z => by simp at z)
    obtain ⟨hi, hj⟩ : i < j ∧ j < len := hv
    have p0 : gA b 59 0 = nI i := s2 0 (by simp)
    have p1 : gA b 59 1 = nI j := s2 1 (by simp)
    have h0 : gA b 59 0 ≠ -1 := by rw [p0]; exact nI_nneg (by omega)
    replace s1 : gI b 31 = nI 2 := s1
    replace hch : 2 ≤ h := hch
    by_cases c1 : j + 1 < len
    · have h7 : f_X8_goOn_L7 (nI k) (nI h) b N (gI b 31 - 1) = some (nI 1) := by
        obtain ⟨fu, rfl⟩ := eN
        rw [s1, show nI 2 - 1 = nI 1 from rfl, g7_stop _ hk h45 hl (by decide) p1 s1 (by omega) (by omega) (by omega)]
      obtain ⟨b2, w0, w1, w2, w3, w4⟩ := g_adv hk hl h3 h45 s1 (by decide) (by decide) p1 h0 h7 hN
      rw [bI_t hch (by omega)] at w0
      exact ⟨b2, w4, Or.inr ⟨[i, j + 1], if_pos c1, w0, zst_2 w1 ((w2 0 (by decide)).trans p0) (w3 1 (by decide) (by decide)), ⟨by omega, c1⟩, hch⟩⟩
    · by_cases c2 : i + 2 < len
      · have h7 : f_X8_goOn_L7 (nI k) (nI h) b N (gI b 31 - 1) = some (nI 0) := by
          obtain ⟨fu, rfl⟩ := eN
          rw [s1, show nI 2 - 1 = nI 1 from rfl, g7_next _ hk h45 hl (by decide) p1 s1 (by omega) (by omega) (by omega), m10, g7_stop _ hk h45 hl (by decide) p0 s1 (by omega) (by omega) (by omega)]
        obtain ⟨b2, w0, w1, w2, w3, w4⟩ := g_adv hk hl h3 h45 s1 (by decide) (by decide) p0 h0 h7 hN
        rw [bI_t hch (by omega)] at w0
        exact ⟨b2, w4, Or.inr ⟨[i + 1, i + 2], by show (if _ then _ else _) = _; rw [if_neg c1, if_pos c2], w0, zst_2 w1 (w3 0 (by decide) (by decide)) (w3 1 (by decide) (by decide)), ⟨by omega, c2⟩, hch⟩⟩
      · have h7 : f_X8_goOn_L7 (nI k) (nI h) b N (gI b 31 - 1) = some (-1) := by
          obtain ⟨fu, rfl⟩ := eN
          rw [s1, show nI 2 - 1 = nI 1 from rfl, g7_next _ hk h45 hl (by decide) p1 s1 (by omega) (by omega) (by omega), m10, g7_next _ hk h45 hl (by decide) p0 s1 (by omega) (by omega) (by omega), m00, g7_end]
        obtain ⟨b2, w0, w1, w2, w3⟩ := g_grow hk hl h3 h45 s1 (by decide) h0 h7 hN
        refine ⟨b2, w3, ?_⟩
        by_cases c3 : 3 ≤ h ∧ 3 ≤ len
        · rw [bI_t c3.1 c3.2] at w0
          have g := w2 (by decide)
          exact Or.inr ⟨[0, 1, 2], by show (if _ then _ else _) = _; rw [if_neg c1, if_neg c2, if_pos c3], w0, zst_3 w1 (g 0 (by decide)) (g 1 (by decide)) (g 2 (by decide)), ⟨by decide, by decide, c3.2⟩, c3.1⟩
        · rw [bI_f c3] at w0
          exact Or.inl ⟨by show (if _ then _ else _) = _; rw [if_neg c1, if_neg c2, if_neg c3], w0⟩
  | [i, j, l], hv, hs, hch =>
    obtain ⟨-, s1, s2⟩ := hs.resolve_left (fun z => by simp at z)
    obtain ⟨hi, hj, hll⟩ : i < j ∧ j < l ∧ l < len := hv
    have p0 : gA b 59 0 = nI i := s2 0 (by simp)
    have p1 : gA b 59 1 = nI j := s2 1 (by simp)
    have p2 : gA b 59 2 = nI l := s2 2 (by simp)
    have h0 : gA b 59 0 ≠ -1 := by rw [p0]; exact nI_nneg (by omega)
    replace s1 : gI b 31 = nI 3 := s1
    replace hch : 3 ≤ h := hch
    by_cases c1 : l + 1 < len
    · have h7 : f_X8_goOn_L7 (nI k) (nI h) b N (gI b 31 - 1) = some (nI 2) := by
        obtain ⟨fu, rfl⟩ := eN
        rw [s1, show nI 3 - 1 = nI 2 from rfl, g7_stop _ hk h45 hl (by decide) p2 s1 (by omega) (by omega) (by omega)]
      obtain ⟨b2, w0, w1, w2, w3, w4⟩ := g_adv hk hl h3 h45 s1 (by decide) (by decide) p2 h0 h7 hN
      rw [bI_t hch (by omega)] at w0
      exact ⟨b2, w4, Or.inr ⟨[i, j, l + 1], if_pos c1, w0, zst_3 w1 ((w2 0 (by decide)).trans p0) ((w2 1 (by decide)).trans p1) (w3 2 (by decide) (by decide)), ⟨by omega, by omega, c1⟩, hch⟩⟩
    · by_cases c2 : j + 2 < len
      · have h7 : f_X8_goOn_L7 (nI k) (nI h) b N (gI b 31 - 1) = some (nI 1) := by
          obtain ⟨fu, rfl⟩ := eN
          rw [s1, show nI 3 - 1 = nI 2 from rfl, g7_next _ hk h45 hl (by decide) p2 s1 (by omega) (by omega) (by omega), m21, g7_stop _ hk h45 hl (by decide) p1 s1 (by omega) (by omega) (by omega)]
        obtain ⟨b2, w0, w1, w2, w3, w4⟩ := g_adv hk hl h3 h45 s1 (by decide) (by decide) p1 h0 h7 hN
        rw [bI_t hch (by omega)] at w0
        exact ⟨b2, w4, Or.inr ⟨[i, j + 1, j + 2], by show (if _ then _ else _) = _; rw [if_neg c1, if_pos c2], w0, zst_3 w1 ((w2 0 (by decide)).trans p0) (w3 1 (by decide) (by decide)) (w3 2 (by decide) (by decide)), ⟨by omega, by omega, c2⟩, hch⟩⟩
      · by_cases c3 : i + 3 < len
        · have h7 : f_X8_goOn_L7 (nI k) (nI h) b N (gI b 31 - 1) = some (nI 0) := by
            obtain ⟨fu, rfl⟩ := eN
            rw [s1, show nI 3 - 1 = nI 2 from rfl, g7_next _ hk h45 hl (by decide) p2 s1 (by omega) (by omega) (by omega), m21, g7_next _ hk h45 hl (by decide) p1 s1 (by omega) (by omega) (by omega), m10, g7_stop _ hk h45 hl (by decide) p0 s1 (by omega) (by omega) (by omega)]
          obtain ⟨b2, w0, w1, w2, w3, w4⟩ := g_adv hk hl h3 h45 s1 (by decide) (by decide) p0 h0 h7 hN
          rw [bI_t hch (by omega)] at w0
          exact ⟨b2, w4, Or.inr ⟨[i + 1, i + 2, i + 3], by show (if _ then _ else _) = _; rw [if_neg c1, if_neg c2, if_pos c3], w0, zst_3 w1 (w3 0 (by decide) (by decide)) (w3 1 (by decide) (by decide)) (w3 2 (by decide) (by decide)), ⟨by omega, by omega, c3⟩, hch⟩⟩
        · have h7 : f_X8_goOn_L7 (nI k) (nI h) b N (gI b 31 - 1) = some (-1) := by
            obtain ⟨fu, rfl⟩ := eN
            rw [s1, show nI 3 - 1 = nI 2 from rfl, g7_next _ hk h45 hl (by decide) p2 s1 (by omega) (by omega) (by omega), m21, g7_next _ hk h45 hl (by decide) p1 s1 (by omega) (by omega) (by omega), m10, g7_next _ hk h45 hl (by decide) p0 s1 (by omega) (by omega) (by omega), m00, g7_end]
          obtain ⟨b2, w0, w1, w2, w3⟩ := g_grow hk hl h3 h45 s1 (by decide) h0 h7 hN
          rw [bI_f (fun z => by omega)] at w0
          exact ⟨b2, w3, Or.inl ⟨by show (if _ then _ else _) = _; rw [if_neg c1, if_neg c2, if_neg c3], w0⟩⟩
