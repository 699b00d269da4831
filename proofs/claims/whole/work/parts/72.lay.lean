/-! lay -/
def zlay (n p x y : Nat) : Nat := (x &&& (2 ^ p - 1)) ||| ((y &&& (2 ^ (n - p) - 1)) <<< p)
theorem zlay_sh {n p y : Nat} (hp : p < n) : (y <<< p) &&& (2 ^ n - 1) = (y &&& (2 ^ (n - p) - 1)) <<< p := by
  apply Nat.eq_of_testBit_eq
  intro j
  rw [Nat.testBit_and, Nat.testBit_two_pow_sub_one, Nat.testBit_shiftLeft, Nat.testBit_shiftLeft, Nat.testBit_and, Nat.testBit_two_pow_sub_one]
  by_cases h : p ≤ j
  · have e : (j < n) ↔ (j - p < n - p) := by omega
    simp [h, e]
  · simp [h]
theorem zlay_lt {n p x y : Nat} (hp : p < n) (hx : x < 2 ^ n) : zlay n p x y < 2 ^ n := by
  unfold zlay
  rw [← zlay_sh hp]
  refine Nat.or_lt_two_pow (Nat.lt_of_le_of_lt Nat.and_le_left hx) (Nat.lt_of_le_of_lt Nat.and_le_right ?_)
  have := Nat.two_pow_pos n
  omega
theorem z_shl12 {y p : Nat} (hp : p < 12) (hy : y < 4096) : nI y <<< (nI p &&& 31) = nI (y <<< p) := by
  refine zI_shl (by omega) ?_
  have h2 := (z_pow p (by omega)).1
  calc y * 2 ^ p ≤ 4096 * 4096 := Nat.mul_le_mul (by omega) h2
    _ < 2 ^ 32 := by decide
theorem f7_lay_in {n kd t d k p : Nat} {l : List Nat} (v1 v2 v5 : Int32) (x : Nat) (hb : zbd n kd t d) (hw : zlw n l) (hx : x < 2 ^ n) (hk : k < 6) (hp : p < n) : ∀ r i acc a fuel, zis a n kd t d → zlA a k l → zlA a 6 acc → acc.length ≤ 64 → i + r = l.length → r < fuel → ∃ a2, f_X7_lay_L95 v1 v2 (nI k) (nI p) v5 (nI (x &&& (2 ^ p - 1))) fuel (nI i) a = some (if (zfo acc ((l.drop i).map (zlay n p x))).length ≤ 64 then .inl a2 else .inr a2) ∧ ((zfo acc ((l.drop i).map (zlay n p x))).length ≤ 64 → zlA a2 6 (zfo acc ((l.drop i).map (zlay n p x)))) ∧ zf6 a a2 := by
  have hx6 := z_xin (n := 6) hk (by decide)
  have hn := hb.2.1
  have hl := hw.1
  have hpw := z_pow n (by omega)
  intro r
  induction r with
  | zero =>
    intro i acc a fuel ha h1 h2 hac hi hf
    obtain ⟨fu, rfl⟩ : ∃ fu, fuel = fu + 1 := ⟨fuel - 1, by omega⟩
    rw [List.drop_eq_nil_of_le (by omega)]
    refine ⟨a, ?_, fun _ => h2, zf6_refl a⟩
    rw [f_X7_lay_L95]
    simp only [if_pos hx6]
    rw [nI_clamp (by omega), h1.1, if_pos (nI_le (by omega) (by omega)), if_pos (show (zfo acc (List.map (zlay n p x) [])).length ≤ 64 from hac)]
  | succ r ih =>
    intro i acc a fuel ha h1 h2 hac hi hf
    obtain ⟨fu, rfl⟩ : ∃ fu, fuel = fu + 1 := ⟨fuel - 1, by omega⟩
    have hil : i < l.length := by omega
    have hx64 := z_xin (k := i) (n := 64) (by omega) (by decide)
    have hy := zlw_lt hw hn _ (z_get hil)
    have hm := zlay_lt (p := p) (y := l.getD i 0) hp hx
    rw [z_drop hil, f_X7_lay_L95]
    simp only [if_pos hx6, if_pos hx64]
    rw [nI_clamp (by omega), nI_clamp (by omega), h1.1, if_neg (nI_ge (by omega) (by omega)), h1.2.1 i hil, f1_all ha.1 hn, nI_1]
    simp only [Option.bind_some]
    rw [z_shl12 (by omega) hy, zI_and, zlay_sh hp, zI_or]
    rw [show (x &&& (2 ^ p - 1)) ||| ((l.getD i 0 &&& (2 ^ (n - p) - 1)) <<< p) = zlay n p x (l.getD i 0) from rfl]
    rw [List.map_cons, show zfo acc (zlay n p x (l.getD i 0) :: (l.drop (i + 1)).map (zlay n p x)) = zfo (zonce acc (zlay n p x (l.getD i 0))) ((l.drop (i + 1)).map (zlay n p x)) from rfl]
    by_cases c : (zonce acc (zlay n p x (l.getD i 0))).length ≤ 64
    · obtain ⟨a2, e, g0, g1, g2, g3⟩ := f3_once h2 hac (show zlay n p x (l.getD i 0) < 4096 by omega) (by decide) c
      rw [e]
      simp only [Option.bind_some, if_neg z10]
      have f : zf6 a a2 := ⟨g1, g2, g3⟩
      obtain ⟨a3, e3, w0, w1⟩ := ih (i + 1) _ a2 fu (zf6_is f ha) (zf6_A hk f h1) g0 c (by omega) (by omega)
      exact ⟨a3, e3, w0, zf6_tr f w1⟩
    · have hge := zfo_ge ((l.drop (i + 1)).map (zlay n p x)) (zonce acc (zlay n p x (l.getD i 0)))
      rw [f3_onceFull h2 hac (show zlay n p x (l.getD i 0) < 4096 by omega) (by omega)]
      simp only [Option.bind_some, ↓reduceIte]
      exact ⟨a, by rw [if_neg (by omega)], fun z => absurd z (by omega), zf6_refl a⟩
def zlo2 (n p : Nat) (lb : List Nat) : List Nat → List Nat → List Nat
  | acc, [] => acc
  | acc, x :: xs => zlo2 n p lb (zfo acc (lb.map (zlay n p x))) xs
theorem zlo2_ge {n p : Nat} {lb : List Nat} : ∀ (xs acc : List Nat), acc.length ≤ (zlo2 n p lb acc xs).length
  | [], acc => Nat.le_refl _
  | x :: xs, acc => Nat.le_trans (zfo_ge _ acc) (zlo2_ge xs _)
theorem zlo2_le {n p : Nat} {lb : List Nat} : ∀ (xs acc : List Nat), (zlo2 n p lb acc xs).length ≤ acc.length + lb.length * xs.length
  | [], acc => Nat.le_refl _
  | x :: xs, acc => by
    have h1 := zlo2_le (n := n) (p := p) (lb := lb) xs (zfo acc (lb.map (zlay n p x)))
    have h2 := zfo_le (lb.map (zlay n p x)) acc
    rw [List.length_map] at h2
    show (zlo2 n p lb (zfo acc (lb.map (zlay n p x))) xs).length ≤ _
    rw [List.length_cons, Nat.mul_add, Nat.mul_one]
    omega
theorem zlo2_nd {n p : Nat} {lb : List Nat} : ∀ (xs acc : List Nat), acc.Nodup → (zlo2 n p lb acc xs).Nodup
  | [], acc, h => h
  | x :: xs, acc, h => zlo2_nd xs _ (zfo_nd _ acc h)
theorem zfo_lay {n p x : Nat} {ys acc : List Nat} (hp : p < n) (hx : x < 2 ^ n) (h : ∀ y ∈ acc, y < 2 ^ n) : ∀ y ∈ zfo acc (ys.map (zlay n p x)), y < 2 ^ n := fun y hy => by
  rcases zfo_mem _ _ y hy with z | z
  · exact h y z
  · obtain ⟨w, -, rfl⟩ := List.mem_map.mp z
    exact zlay_lt hp hx
theorem zlo2_lt {n p : Nat} {lb : List Nat} (hp : p < n) : ∀ (xs acc : List Nat), (∀ y ∈ xs, y < 2 ^ n) → (∀ y ∈ acc, y < 2 ^ n) → ∀ y ∈ zlo2 n p lb acc xs, y < 2 ^ n
  | [], acc, _, h => h
  | x :: xs, acc, hx, h => zlo2_lt hp xs _ (fun y hy => hx y (List.mem_cons_of_mem _ hy)) (zfo_lay hp (hx x List.mem_cons_self) h)
theorem f7_lay_out {n kd t d k k2 p N : Nat} {l lb : List Nat} (v1 : Int32) (hb : zbd n kd t d) (hw : zlw n l) (hwb : zlw n lb) (hk : k < 6) (hk2 : k2 < 6) (hp : p < n) (hN : 5000 ≤ N) : ∀ r i acc a fuel, zis a n kd t d → zlA a k l → zlA a k2 lb → zlA a 6 acc → acc.length ≤ 64 → i + r = l.length → r < fuel → ∃ a2, f_X7_lay_L57 N v1 (nI k) (nI k2) (nI p) fuel (nI i) a = some (if (zlo2 n p lb acc (l.drop i)).length ≤ 64 then .inl a2 else .inr a2) ∧ ((zlo2 n p lb acc (l.drop i)).length ≤ 64 → zlA a2 6 (zlo2 n p lb acc (l.drop i))) ∧ zf6 a a2 := by
  have hx6 := z_xin (n := 6) hk (by decide)
  have hn := hb.2.1
  have hl := hw.1
  have hlb := hwb.1
  intro r
  induction r with
  | zero =>
    intro i acc a fuel ha h1 h3 h2 hac hi hf
    obtain ⟨fu, rfl⟩ : ∃ fu, fuel = fu + 1 := ⟨fuel - 1, by omega⟩
    rw [List.drop_eq_nil_of_le (by omega)]
    refine ⟨a, ?_, fun _ => h2, zf6_refl a⟩
    rw [f_X7_lay_L57]
    simp only [if_pos hx6]
    rw [nI_clamp (by omega), h1.1, if_pos (nI_le (by omega) (by omega)), if_pos (show (zlo2 n p lb acc []).length ≤ 64 from hac)]
  | succ r ih =>
    intro i acc a fuel ha h1 h3 h2 hac hi hf
    obtain ⟨fu, rfl⟩ : ∃ fu, fuel = fu + 1 := ⟨fuel - 1, by omega⟩
    have hil : i < l.length := by omega
    have hx64 := z_xin (k := i) (n := 64) (by omega) (by decide)
    have hm := hw.2.2 _ (z_get hil)
    rw [z_drop hil, f_X7_lay_L57]
    simp only [if_pos hx6, if_pos hx64]
    rw [nI_clamp (by omega), nI_clamp (by omega), h1.1, if_neg (nI_ge (by omega) (by omega)), h1.2.1 i hil, z_p1 (by omega), zI_and, nI_1, z_sbind]
    obtain ⟨a2, e, g0, g1⟩ := f7_lay_in v1 (nI k) (nI i) (l.getD i 0) hb hwb hm hk2 hp lb.length 0 acc a N ha h3 h2 hac (by omega) (by omega)
    rw [List.drop_zero] at e g0
    rw [show nI 0 = (0 : Int32) from rfl] at e
    rw [e, z_sbind]
    rw [show zlo2 n p lb acc (l.getD i 0 :: l.drop (i + 1)) = zlo2 n p lb (zfo acc (lb.map (zlay n p (l.getD i 0)))) (l.drop (i + 1)) from rfl]
    by_cases c : (zfo acc (lb.map (zlay n p (l.getD i 0)))).length ≤ 64
    · rw [if_pos c]
      simp only [Sum.elim_inl]
      obtain ⟨a3, e3, w0, w1⟩ := ih (i + 1) _ a2 fu (zf6_is g1 ha) (zf6_A hk g1 h1) (zf6_A hk2 g1 h3) (g0 c) c (by omega) (by omega)
      exact ⟨a3, e3, w0, zf6_tr g1 w1⟩
    · have hge := zlo2_ge (n := n) (p := p) (lb := lb) (l.drop (i + 1)) (zfo acc (lb.map (zlay n p (l.getD i 0))))
      rw [if_neg c]
      simp only [Sum.elim_inr]
      exact ⟨a2, by rw [if_neg (by omega)], fun z => absurd z (by omega), g1⟩
theorem z_lay8 {n p x y : Nat} (hn : n ≤ 12) (hp : p < n) (hx : x < 4096) (hy : y < 4096) : (nI x &&& (((1 : Int32) <<< (nI p &&& 31)) - 1)) ||| ((nI y &&& (((1 : Int32) <<< ((nI n - nI p) &&& 31)) - 1)) <<< (nI p &&& 31)) = nI (zlay n p x y) := by
  rw [z_p1 (by omega), pk_sub (by omega), z_all (n - p) (by omega), zI_and, zI_and, z_shl12 (by omega) (Nat.lt_of_le_of_lt Nat.and_le_left hy), zI_or]
  rfl
theorem f8_lay_in {n kd t d k k2 p i0 N : Nat} {l lb : List Nat} (v1 : Int32) (hb : zbd n kd t d) (hw : zlw n l) (hwb : zlw n lb) (hk : k < 6) (hk2 : k2 < 6) (hp : p < n) (hi0 : i0 < l.length) (hN : 5000 ≤ N) : ∀ r i acc b fuel, zis b n kd t d → zlB b k l → zlB b k2 lb → zrow b acc → acc.length + r ≤ 4096 → (∀ x ∈ acc, x < 2 ^ n) → i + r = lb.length → r < fuel → ∃ b2, f_X8_lay_L68 N v1 (nI k) (nI k2) (nI p) (nI i0) fuel (nI i) b = some b2 ∧ zrow b2 (zfo acc ((lb.drop i).map (zlay n p (l.getD i0 0)))) ∧ zfr b b2 := by
  have hx6 := z_xin (n := 6) hk2 (by decide)
  have hn := hb.2.1
  have hpw := z_pow n (by omega)
  have hl := hw.1
  have hlb := hwb.1
  have hx0 := zlw_lt hw hn _ (z_get hi0)
  intro r
  induction r with
  | zero =>
    intro i acc b fuel ha h1 h3 h2 hac hab hi hf
    obtain ⟨fu, rfl⟩ : ∃ fu, fuel = fu + 1 := ⟨fuel - 1, by omega⟩
    rw [List.drop_eq_nil_of_le (by omega)]
    refine ⟨b, ?_, h2, zfr_refl b⟩
    rw [f_X8_lay_L68]
    simp only [if_pos hx6]
    rw [nI_clamp (by omega), h3.1, if_pos (nI_le (by omega) (by omega))]
  | succ r ih =>
    intro i acc b fuel ha h1 h3 h2 hac hab hi hf
    obtain ⟨fu, rfl⟩ : ∃ fu, fuel = fu + 1 := ⟨fuel - 1, by omega⟩
    have hil : i < lb.length := by omega
    have hy := zlw_lt hwb hn _ (z_get hil)
    have hm := zlay_lt (p := p) (y := lb.getD i 0) hp (hw.2.2 _ (z_get hi0))
    rw [z_drop hil, f_X8_lay_L68]
    simp only [if_pos hx6]
    rw [nI_clamp (by omega), h3.1, if_neg (nI_ge (by omega) (by omega)), f8_at h1 hk hi0 hl, z_sbind, f8_at h3 hk2 hil hlb, z_sbind, z_sbind, nI_1, ha.1]
    rw [z_lay8 hn hp hx0 hy]
    obtain ⟨b2, e, g0, g1, g2⟩ := f8_come h2 (Or.inl (by omega)) (by omega) (fun x hx => by have := hab x hx; omega) (show zlay n p (l.getD i0 0) (lb.getD i 0) < 4096 by omega) hN
    rw [e, z_sbind]
    have f : zfr b b2 := ⟨g1, g2⟩
    have hz := zonce_len acc (zlay n p (l.getD i0 0) (lb.getD i 0))
    obtain ⟨b3, e3, w0, w1⟩ := ih (i + 1) _ b2 fu (zfr_is f ha) (zfr_B f h1) (zfr_B f h3) g0 (by omega) (fun x hx => (zonce_mem hx).elim (hab x) (fun z => z ▸ hm)) (by omega) (by omega)
    exact ⟨b3, e3, w0, zfr_tr f w1⟩
theorem f8_lay_out {n kd t d k k2 p N : Nat} {l lb : List Nat} (v1 : Int32) (hb : zbd n kd t d) (hw : zlw n l) (hwb : zlw n lb) (hk : k < 6) (hk2 : k2 < 6) (hp : p < n) (hN : 5000 ≤ N) : ∀ r i acc b fuel, zis b n kd t d → zlB b k l → zlB b k2 lb → zrow b acc → acc.length + 64 * r ≤ 4096 → (∀ x ∈ acc, x < 2 ^ n) → i + r = l.length → r < fuel → ∃ b2, f_X8_lay_L54 N v1 (nI k) (nI k2) (nI p) fuel (nI i) b = some b2 ∧ zrow b2 (zlo2 n p lb acc (l.drop i)) ∧ zfr b b2 := by
  have hx6 := z_xin (n := 6) hk (by decide)
  have hl := hw.1
  have hlb := hwb.1
  intro r
  induction r with
  | zero =>
    intro i acc b fuel ha h1 h3 h2 hac hab hi hf
    obtain ⟨fu, rfl⟩ : ∃ fu, fuel = fu + 1 := ⟨fuel - 1, by omega⟩
    rw [List.drop_eq_nil_of_le (by omega)]
    refine ⟨b, ?_, h2, zfr_refl b⟩
    rw [f_X8_lay_L54]
    simp only [if_pos hx6]
    rw [nI_clamp (by omega), h1.1, if_pos (nI_le (by omega) (by omega))]
  | succ r ih =>
    intro i acc b fuel ha h1 h3 h2 hac hab hi hf
    obtain ⟨fu, rfl⟩ : ∃ fu, fuel = fu + 1 := ⟨fuel - 1, by omega⟩
    have hil : i < l.length := by omega
    rw [z_drop hil, f_X8_lay_L54]
    simp only [if_pos hx6]
    obtain ⟨b2, e, g0, f⟩ := f8_lay_in v1 hb hw hwb hk hk2 hp hil hN lb.length 0 acc b N ha h1 h3 h2 (by omega) hab (by omega) (by omega)
    rw [List.drop_zero] at g0
    rw [show nI 0 = (0 : Int32) from rfl] at e
    rw [nI_clamp (by omega), h1.1, if_neg (nI_ge (by omega) (by omega)), e, z_sbind, nI_1]
    have hz := zfo_le (lb.map (zlay n p (l.getD i 0))) acc
    rw [List.length_map] at hz
    obtain ⟨b3, e3, w0, w1⟩ := ih (i + 1) _ b2 fu (zfr_is f ha) (zfr_B f h1) (zfr_B f h3) g0 (by omega) (zfo_lay hp (hw.2.2 _ (z_get hil)) hab) (by omega) (by omega)
    exact ⟨b3, e3, w0, zfr_tr f w1⟩
