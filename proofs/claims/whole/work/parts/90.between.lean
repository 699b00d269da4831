/-! between, good, build -/
theorem zand_nd (m k : Nat) : znd m (m ^^^ k) = m &&& k := by
  apply Nat.eq_of_testBit_eq
  intro j
  rw [znd_bit, Nat.testBit_xor, Nat.testBit_and]
  cases m.testBit j <;> cases k.testBit j <;> rfl
theorem z_wit {a b : xT} {n kd t d m k N : Nat} (ha : zis a n kd t d) (hB : zis b n kd t d) (hb : zbd n kd t d) (hm : m < 2 ^ n) (hk : k < 2 ^ n) (hN : 5000 ≤ N) : (zalike n kd t d m k = false ∧ f_X1_witnessSeen N (nI m) (nI k) a = some (-1) ∧ f_X1_witnessLost N (nI m) (nI k) a = some (-1)) ∨ (zalike n kd t d m k = true ∧ ∃ u v, f_X1_witnessSeen N (nI m) (nI k) a = some u ∧ f_X1_witnessLost N (nI m) (nI k) a = some v ∧ f_X8_witness N (nI m) (nI k) 0 b = some u ∧ f_X8_witness N (nI m) (nI k) 1 b = some v) := by
  have hn := hb.2.1
  have hp := z_pow n (by omega)
  have h3 := hb.2.2.1
  have ht := hb.2.2.2.1
  have hlost : f_X1_witnessLost N (nI m) (nI k) a = some (if zalike n kd t d m k then (if kd = 0 then nI (m ^^^ k) else 0) else -1) := by
    unfold f_X1_witnessLost
    rw [f1_rev ha.1 hn (by omega) (by omega), z_sbind, f1_alike ha hb (by omega) (by omega), z_sbind, ha.2.1, zI_xor]
    cases zalike n kd t d m k with
    | false => rfl
    | true =>
      rw [if_neg (by decide)]
      by_cases c : kd = 0
      · rw [if_pos ((nI_eq0 (by omega)).mpr c), if_pos rfl, if_pos c]
      · rw [if_neg (fun z => c ((nI_eq0 (by omega)).mp z)), if_pos rfl, if_neg c]
  by_cases c0 : kd = 0
  · subst c0
    have hx : m ^^^ k < 4096 := Nat.xor_lt_two_pow (n := 12) (by omega) (by omega)
    have p1 := zpc_le (m ^^^ k)
    have hseen : f_X1_witnessSeen N (nI m) (nI k) a = some (if zalike n 0 t d m k then nI (m &&& k) else -1) := by
      unfold f_X1_witnessSeen zalike
      rw [ha.2.1, if_pos (show nI 0 = (0 : Int32) from rfl), if_pos rfl, zI_xor, zI_and, z_bc _ hx, z_sbind, ha.2.2.1]
      by_cases c1 : zpc (m ^^^ k) ≤ t
      · rw [if_neg (nI_nlt c1 (by omega))]; simp [c1]
      · rw [if_pos (nI_lt (by omega) (by omega))]; simp [c1]
    rw [hseen, hlost]
    unfold f_X8_witness
    rw [hB.2.1, if_pos (show nI 0 = (0 : Int32) from rfl), if_pos (show nI 0 = (0 : Int32) from rfl), if_pos (rfl : (0 : Int32) = 0), if_neg z10, zI_xor, znd_and, zand_nd]
    cases zalike n 0 t d m k with
    | false => exact Or.inl ⟨rfl, rfl, rfl⟩
    | true => exact Or.inr ⟨rfl, _, _, rfl, rfl, rfl, rfl⟩
  · obtain ⟨v, e, o⟩ := f1_wit (N := N) ha hb c0 hm hk (by omega)
    have hi := zalike_iff (v := 0) hb c0 hm hk
    rw [e, hlost, if_neg c0]
    rcases o with ⟨rfl, o2⟩ | ⟨w, w1, rfl, w2, w3⟩
    · left
      have : zalike n kd t d m k = false := by
        cases q : zalike n kd t d m k with
        | false => rfl
        | true =>
          obtain ⟨s, s1, s2⟩ := hi.mp q
          exact absurd s2 (o2 s s1)
      rw [this]
      exact ⟨rfl, rfl, rfl⟩
    · right
      have : zalike n kd t d m k = true := hi.mpr ⟨w, w1, w2⟩
      have l0 := f8_wit_loop (N := N) 0 hB hb hm hk w1 w2 w3 (by omega) w 0 N (by omega) (by omega)
      have l1 := f8_wit_loop (N := N) 1 hB hb hm hk w1 w2 w3 (by omega) w 0 N (by omega) (by omega)
      rw [show nI 0 = (0 : Int32) from rfl] at l0 l1
      unfold f_X8_witness
      rw [this, hB.2.1, if_neg (fun z => c0 ((nI_eq0 (by omega)).mp z)), if_neg (fun z => c0 ((nI_eq0 (by omega)).mp z)), l0, l1]
      exact ⟨rfl, _, _, rfl, rfl, rfl, rfl⟩
theorem p_between {N : Nat} (hN : 5000 ≤ N) : xP_between N zInv := by
  intro y1 y2 y3 a b hI
  obtain ⟨n, kd, t, d, hb, ha, hB, -⟩ := id hI
  have hn := hb.2.1
  have hp := z_pow n (by omega)
  unfold f_X7_between f_X8_between
  rw [f1_isSet y1 ha.1 hn, f8_isMark y1 hB.1 hn, f1_isSet y2 ha.1 hn, f8_isMark y2 hB.1 hn]
  simp only [z_sbind]
  by_cases c : y1 < 0 ∨ nI (2 ^ n - 1) < y1
  · rw [if_pos c]; exact ⟨_, rfl, rfl, hI⟩
  rw [if_neg c]
  simp only [if_neg z10]
  by_cases c2 : y2 < 0 ∨ nI (2 ^ n - 1) < y2
  · rw [if_pos c2]; exact ⟨_, rfl, rfl, hI⟩
  rw [if_neg c2]
  simp only [if_neg z10]
  have w3 := f8_in y3 0 1
  rw [show (0 : Int32).toInt64 = 0 from rfl, show (1 : Int32).toInt64 = 1 from rfl] at w3
  rw [f7_within, w3]
  simp only [z_sbind]
  by_cases c3 : y3 < 0 ∨ 1 < y3
  · rw [if_pos c3]; exact ⟨_, rfl, rfl, hI⟩
  rw [if_neg c3]
  simp only [if_neg z10]
  obtain ⟨m, hm, rfl⟩ := z_setOf hn c
  obtain ⟨k, hk, rfl⟩ := z_setOf hn c2
  obtain ⟨q, -, q1, rfl⟩ := i32_rng (v := y3) 0 1 (fun z => c3 (Or.inl z)) (fun z => c3 (Or.inr z)) (by decide) (by decide)
  rw [f8_alike hB hb (by omega) hm hk]
  simp only [z_sbind]
  rcases z_wit (N := N) ha hB hb hm hk hN with ⟨g1, g2, g3⟩ | ⟨g1, u, v, g2, g3, g4, g5⟩
  · rw [g1, g2, g3, if_pos (show bI false = 0 from rfl)]
    rcases (show q = 0 ∨ q = 1 by omega) with rfl | rfl
    · exact ⟨_, rfl, rfl, hI⟩
    · exact ⟨_, rfl, rfl, hI⟩
  · rw [g1, g2, g3, g4, g5, if_neg (show ¬ bI true = 0 by decide)]
    rcases (show q = 0 ∨ q = 1 by omega) with rfl | rfl
    · exact ⟨_, rfl, rfl, hI⟩
    · exact ⟨_, rfl, rfl, hI⟩
theorem z_first {a b : xT} {n kd t d k i N : Nat} {l : List Nat} (v2 : Int32) (ha : zis a n kd t d) (hB : zis b n kd t d) (hb : zbd n kd t d) (hk : k < 6) (hw : zlw n l) (hA : zlA a k l) (hBl : zlB b k l) (hi : i < l.length) (hN : 20 ≤ N) : ∀ r j f1 f2, j + r = l.length → r < f1 → r < f2 → (f_X7_firstAlike_L13 k (nI (l.getD i 0)) (nI (zrev n (l.getD i 0))) a f1 (nI j) = some (.inl ()) ∧ f_X8_good_L44 N (nI k) v2 (nI i) b f2 (nI j) = some (.inl ())) ∨ ∃ q, q < l.length ∧ zalike n kd t d (l.getD i 0) (l.getD q 0) = true ∧ f_X7_firstAlike_L13 k (nI (l.getD i 0)) (nI (zrev n (l.getD i 0))) a f1 (nI j) = some (.inr (nI q)) ∧ f_X8_good_L44 N (nI k) v2 (nI i) b f2 (nI j) = some (.inr (nI q)) := by
  have hn := hb.2.1
  have hl := hw.1
  have hp := z_pow n (by omega)
  have hx6 := z_xin (n := 6) hk (by decide)
  have hmi := hw.2.2 _ (z_get hi)
  intro r
  induction r with
  | zero =>
    intro j f1 f2 hj hf1 hf2
    obtain ⟨fu, rfl⟩ : ∃ fu, f1 = fu + 1 := ⟨f1 - 1, by omega⟩
    obtain ⟨gu, rfl⟩ : ∃ gu, f2 = gu + 1 := ⟨f2 - 1, by omega⟩
    left
    rw [f_X7_firstAlike_L13, f_X8_good_L44, if_pos hx6, nI_clamp (n := k) (by omega), hA.1, hBl.1, if_pos (nI_le (by omega) (by omega)), if_pos (nI_le (by omega) (by omega))]
    exact ⟨rfl, rfl⟩
  | succ r ih =>
    intro j f1 f2 hj hf1 hf2
    obtain ⟨fu, rfl⟩ : ∃ fu, f1 = fu + 1 := ⟨f1 - 1, by omega⟩
    obtain ⟨gu, rfl⟩ : ∃ gu, f2 = gu + 1 := ⟨f2 - 1, by omega⟩
    have hjl : j < l.length := by omega
    have hmj := hw.2.2 _ (z_get hjl)
    rw [f_X7_firstAlike_L13, f_X8_good_L44, if_pos hx6, nI_clamp (n := k) (by omega), hA.1, hBl.1, if_neg (nI_ge (by omega) (by omega)), if_neg (nI_ge (by omega) (by omega)), if_pos (z_xin (by omega) (by decide)), nI_clamp (n := j) (by omega), hA.2.1 j hjl, f1_alike ha hb (by omega) (by omega), z_sbind, f8_at hBl hk hi hl, z_sbind, f8_at hBl hk hjl hl, z_sbind, f8_alike hB hb hN hmi hmj, z_sbind, nI_1]
    cases q : zalike n kd t d (l.getD i 0) (l.getD j 0) with
    | false =>
      rw [if_pos (by decide), if_pos (by decide)]
      exact ih (j + 1) fu gu (by omega) (by omega) (by omega)
    | true =>
      rw [if_neg (by decide), if_neg (by decide)]
      exact Or.inr ⟨j, hjl, q, rfl, rfl⟩
theorem z_good {a b : xT} {n kd t d k N : Nat} {l : List Nat} (v2 : Int32) (ha : zis a n kd t d) (hB : zis b n kd t d) (hb : zbd n kd t d) (hk : k < 6) (hw : zlw n l) (hA : zlA a k l) (hBl : zlB b k l) (hN : 5000 ≤ N) : ∀ r i f1 f2, i + r = l.length → r < f1 → r < f2 → (f_X7_good_L34 N v2 k a f1 (nI i) = some (.inl ()) ∧ f_X8_good_L29 N (nI k) v2 b f2 (nI i) = some (.inl ())) ∨ ∃ p q, p < l.length ∧ q < l.length ∧ zalike n kd t d (l.getD p 0) (l.getD q 0) = true ∧ f_X7_good_L34 N v2 k a f1 (nI i) = some (.inr (nI p, nI q)) ∧ f_X8_good_L29 N (nI k) v2 b f2 (nI i) = some (.inr (nI p, nI q)) := by
  have hn := hb.2.1
  have hl := hw.1
  have hp := z_pow n (by omega)
  have hx6 := z_xin (n := 6) hk (by decide)
  intro r
  induction r with
  | zero =>
    intro j f1 f2 hj hf1 hf2
    obtain ⟨fu, rfl⟩ : ∃ fu, f1 = fu + 1 := ⟨f1 - 1, by omega⟩
    obtain ⟨gu, rfl⟩ : ∃ gu, f2 = gu + 1 := ⟨f2 - 1, by omega⟩
    left
    rw [f_X7_good_L34, f_X8_good_L29, if_pos hx6, nI_clamp (n := k) (by omega), hA.1, hBl.1, if_pos (nI_le (by omega) (by omega)), if_pos (nI_le (by omega) (by omega))]
    exact ⟨rfl, rfl⟩
  | succ r ih =>
    intro i f1 f2 hj hf1 hf2
    obtain ⟨fu, rfl⟩ : ∃ fu, f1 = fu + 1 := ⟨f1 - 1, by omega⟩
    obtain ⟨gu, rfl⟩ : ∃ gu, f2 = gu + 1 := ⟨f2 - 1, by omega⟩
    have hil : i < l.length := by omega
    have hmi := hw.2.2 _ (z_get hil)
    have hz := z_first (N := N) v2 ha hB hb hk hw hA hBl hil (by omega) r (i + 1) N N (by omega) (by omega) (by omega)
    rw [f_X7_good_L34, f_X8_good_L29, if_pos hx6, nI_clamp (n := k) (by omega), hA.1, hBl.1, if_neg (nI_ge (by omega) (by omega)), if_neg (nI_ge (by omega) (by omega)), if_pos (z_xin (by omega) (by decide)), nI_clamp (n := i) (by omega), hA.2.1 i hil, nI_1]
    unfold f_X7_firstAlike
    rw [f1_rev ha.1 hn (by omega) (by omega), z_sbind]
    rcases hz with ⟨z1, z2⟩ | ⟨q, hq, z0, z1, z2⟩
    · rw [z1, z2, z_sbind, z_sbind]
      simp only [Sum.elim_inl, z_sbind, ↓reduceIte]
      exact ih (i + 1) fu gu (by omega) (by omega) (by omega)
    · rw [z1, z2, z_sbind, z_sbind]
      have hne : ¬ nI q = -1 := nI_nneg (by omega)
      simp only [Sum.elim_inr, z_sbind, if_neg hne]
      exact Or.inr ⟨i, q, hil, hq, z0, rfl, rfl⟩
theorem p_good {N : Nat} (hN : 5000 ≤ N) : xP_good N zInv := by
  intro y1 y2 a b hI
  obtain ⟨n, kd, t, d, hb, ha, hB, ⟨ls, hls⟩, -⟩ := id hI
  have hn := hb.2.1
  unfold f_X7_good f_X8_good
  rcases z_isL y1 with ⟨e1, e2⟩ | ⟨k, hk, rfl, e1, e2⟩
  · rw [e1, e2]; exact ⟨_, rfl, rfl, hI⟩
  rw [e1, e2]
  simp only [z_sbind, if_neg z10]
  have w3 := f8_in y2 0 4
  rw [show (0 : Int32).toInt64 = 0 from rfl, show (4 : Int32).toInt64 = 4 from rfl] at w3
  rw [f7_within, w3]
  simp only [z_sbind]
  by_cases c3 : y2 < 0 ∨ 4 < y2
  · rw [if_pos c3]; exact ⟨_, rfl, rfl, hI⟩
  rw [if_neg c3]
  have hx6 := z_xin (n := 6) hk (by decide)
  simp only [if_neg z10, if_pos hx6]
  obtain ⟨w, -, w1, rfl⟩ := i32_rng (v := y2) 0 4 (fun z => c3 (Or.inl z)) (fun z => c3 (Or.inr z)) (by decide) (by decide)
  obtain ⟨h1, h2, h3⟩ := hls k hk
  have hl := h1.1
  have hz := z_good (N := N) (nI w) ha hB hb hk h1 h2 h3 hN (ls k).length 0 N N (by omega) (by omega) (by omega)
  rw [show nI 0 = (0 : Int32) from rfl] at hz
  rw [nI_clamp (by omega)]
  rcases hz with ⟨z1, z2⟩ | ⟨p, q, hp, hq, z0, z1, z2⟩
  · rw [z1, z2]
    simp only [z_sbind, Sum.elim_inl]
    by_cases c : nI w = 0
    · rw [if_pos c]; exact ⟨_, rfl, rfl, hI⟩
    · rw [if_neg c]; exact ⟨_, rfl, rfl, hI⟩
  · rw [z1, z2]
    simp only [z_sbind, Sum.elim_inr]
    unfold f_X7_ofBadPair
    rcases z_wit (N := N) ha hB hb (h1.2.2 _ (z_get hp)) (h1.2.2 _ (z_get hq)) hN with ⟨g1, -⟩ | ⟨-, u, v, g2, g3, g4, g5⟩
    · rw [z0] at g1; cases g1
    · rw [if_pos (z_xin (k := p) (by omega) (by decide)), if_pos (z_xin (k := q) (by omega) (by decide)), if_pos (z_xin (k := p) (by omega) (by decide)), if_pos (z_xin (k := q) (by omega) (by decide)), nI_clamp (n := p) (by omega), nI_clamp (n := q) (by omega), h2.2.1 p hp, h2.2.1 q hq, g2, g3, f8_at h3 hk hp hl, f8_at h3 hk hq hl]
      simp only [z_sbind]
      rw [g4, g5]
      rcases (show w = 0 ∨ w = 1 ∨ w = 2 ∨ w = 3 ∨ w = 4 by omega) with rfl | rfl | rfl | rfl | rfl
      · exact ⟨_, rfl, rfl, hI⟩
      · exact ⟨_, rfl, rfl, hI⟩
      · exact ⟨_, rfl, rfl, hI⟩
      · exact ⟨_, rfl, rfl, hI⟩
      · exact ⟨_, rfl, rfl, hI⟩
/-! build -/
theorem znear_sym (f m k : Nat) : znear f m k = znear f k m := by
  unfold znear; rw [Bool.and_comm]
theorem zalike_sym {n kd t d m k : Nat} (hn : n ≤ 12) (hm : m < 2 ^ n) (hk : k < 2 ^ n) : zalike n kd t d m k = zalike n kd t d k m := by
  unfold zalike
  rw [Nat.xor_comm, znear_sym (zfar kd t d) m k, znear_sym (zfar kd t d) (zrev n m) k, znear_mr hn hk hm]
theorem zpc_0 : zpc 0 = 0 := by decide
theorem znd_self (m : Nat) : znd m m = 0 := by
  unfold znd; rw [Nat.and_self, Nat.xor_self]
theorem zalike_self {n kd t d m : Nat} : zalike n kd t d m m = true := by
  unfold zalike znear
  rw [Nat.xor_self, znd_self, zpc_0]
  split <;> simp
theorem z_apart {a b : xT} {n kd t d k m N : Nat} {l : List Nat} (ha : zis a n kd t d) (hB : zis b n kd t d) (hb : zbd n kd t d) (hk : k < 6) (hw : zlw n l) (hA : zlA a k l) (hBl : zlB b k l) (hm : m < 2 ^ n) (hN : 20 ≤ N) : ∀ r j f1 f2, j + r = l.length → r < f1 → r < f2 → (f_X7_firstAlike_L13 k (nI m) (nI (zrev n m)) a f1 (nI j) = some (.inl ()) ∧ f_X8_isApart_L2 N (nI k) (nI m) b f2 (nI j) = some (.inl ()) ∧ ∀ x ∈ l.drop j, zalike n kd t d m x = false) ∨ ∃ q, q < l.length ∧ f_X7_firstAlike_L13 k (nI m) (nI (zrev n m)) a f1 (nI j) = some (.inr (nI q)) ∧ f_X8_isApart_L2 N (nI k) (nI m) b f2 (nI j) = some (.inr ()) := by
  have hn := hb.2.1
  have hl := hw.1
  have hp := z_pow n (by omega)
  have hx6 := z_xin (n := 6) hk (by decide)
  intro r
  induction r with
  | zero =>
    intro j f1 f2 hj hf1 hf2
    obtain ⟨fu, rfl⟩ : ∃ fu, f1 = fu + 1 := ⟨f1 - 1, by omega⟩
    obtain ⟨gu, rfl⟩ : ∃ gu, f2 = gu + 1 := ⟨f2 - 1, by omega⟩
    left
    rw [f_X7_firstAlike_L13, f_X8_isApart_L2, if_pos hx6, nI_clamp (n := k) (by omega), hA.1, hBl.1, if_pos (nI_le (by omega) (by omega)), if_pos (nI_le (by omega) (by omega)), List.drop_eq_nil_of_le (by omega)]
    exact ⟨rfl, rfl, fun x hx => absurd hx List.not_mem_nil⟩
  | succ r ih =>
    intro j f1 f2 hj hf1 hf2
    obtain ⟨fu, rfl⟩ : ∃ fu, f1 = fu + 1 := ⟨f1 - 1, by omega⟩
    obtain ⟨gu, rfl⟩ : ∃ gu, f2 = gu + 1 := ⟨f2 - 1, by omega⟩
    have hjl : j < l.length := by omega
    have hmj := hw.2.2 _ (z_get hjl)
    rw [f_X7_firstAlike_L13, f_X8_isApart_L2, if_pos hx6, nI_clamp (n := k) (by omega), hA.1, hBl.1, if_neg (nI_ge (by omega) (by omega)), if_neg (nI_ge (by omega) (by omega)), if_pos (z_xin (by omega) (by decide)), nI_clamp (n := j) (by omega), hA.2.1 j hjl, f1_alike ha hb (by omega) (by omega), z_sbind, f8_at hBl hk hjl hl, z_sbind, f8_alike hB hb hN hmj hm, z_sbind, zalike_sym hn hmj hm, nI_1, z_drop hjl]
    cases q : zalike n kd t d m (l.getD j 0) with
    | false =>
      rw [if_pos (by decide), if_pos (by decide)]
      rcases ih (j + 1) fu gu (by omega) (by omega) (by omega) with ⟨z1, z2, z3⟩ | z
      · refine Or.inl ⟨z1, z2, fun x hx => ?_⟩
        rcases List.mem_cons.mp hx with rfl | hx
        · exact q
        · exact z3 x hx
      · exact Or.inr z
    | true =>
      rw [if_neg (by decide), if_neg (by decide)]
      exact Or.inr ⟨j, hjl, rfl, rfl⟩
theorem z_build {n kd t d k sd w N : Nat} (hb : zbd n kd t d) (hk : k < 6) (hsd : sd ≤ 4095) (hw64 : w ≤ 64) (hN : 5000 ≤ N) : ∀ r x l a b f1 f2, zis a n kd t d → zis b n kd t d → zlw n l → zlA a k l → zlB b k l → x + r = 2 ^ n → r < f1 → r < f2 → ∃ a2 b2 l2, f_X7_build_L56 N (nI sd) (nI w) k (nI (2 ^ n - 1)) f1 (nI x) a = some a2 ∧ f_X8_build_L50 N (nI k) (nI sd) (nI w) (nI (2 ^ n)) f2 (nI x) b = some b2 ∧ zlw n l2 ∧ zlA a2 k l2 ∧ zlB b2 k l2 ∧ (∀ j, j ≠ 23 + k → gI a2 j = gI a j) ∧ (∀ c j, c ≠ 30 + k → gA a2 c j = gA a c j) ∧ (∀ c j, c ≠ 37 + k → gB a2 c j = gB a c j) ∧ (∀ j, gI b2 j = gI b j) ∧ (∀ c j, c ≠ 45 → c ≠ 46 → gA b2 c j = gA b c j) ∧ (∀ j, j ≠ k → gA b2 45 j = gA b 45 j) ∧ ∀ j, (j < 64 * k ∨ 64 * k + 64 ≤ j) → gA b2 46 j = gA b 46 j := by
  have hn := hb.2.1
  have hp := z_pow n (by omega)
  have hx6 := z_xin (n := 6) hk (by decide)
  intro r
  induction r with
  | zero =>
    intro x l a b f1 f2 ha hB hw hA hBl hx hf1 hf2
    obtain ⟨fu, rfl⟩ : ∃ fu, f1 = fu + 1 := ⟨f1 - 1, by omega⟩
    obtain ⟨gu, rfl⟩ : ∃ gu, f2 = gu + 1 := ⟨f2 - 1, by omega⟩
    refine ⟨a, b, l, ?_, ?_, hw, hA, hBl, fun _ _ => rfl, fun _ _ _ => rfl, fun _ _ _ => rfl, fun _ => rfl, fun _ _ _ _ => rfl, fun _ _ => rfl, fun _ _ => rfl⟩
    · rw [f_X7_build_L56, if_pos (nI_lt (by omega) (by omega))]
    · rw [f_X8_build_L50, if_pos (nI_le (by omega) (by omega))]
  | succ r ih =>
    intro x l a b f1 f2 ha hB hw hA hBl hx hf1 hf2
    obtain ⟨fu, rfl⟩ : ∃ fu, f1 = fu + 1 := ⟨f1 - 1, by omega⟩
    obtain ⟨gu, rfl⟩ : ∃ gu, f2 = gu + 1 := ⟨f2 - 1, by omega⟩
    have hl := hw.1
    have hxs : x * (2 * sd + 1) ≤ 4096 * 8191 := Nat.mul_le_mul (by omega) (by omega)
    have e0 : nI x * ((2 * nI sd) + 1) + nI sd = nI (x * (2 * sd + 1) + sd) := by
      rw [show (2 : Int32) = nI 2 from rfl, pk_mul, nI_1, pk_mul, nI_add]
    have e1 : nI (x * (2 * sd + 1) + sd) &&& nI (2 ^ n - 1) = nI ((x * (2 * sd + 1) + sd) % 2 ^ n) := by
      rw [zI_and, Nat.and_two_pow_sub_one_eq_mod]
    have e2 : nI (x * (2 * sd + 1) + sd) - nI (x * (2 * sd + 1) + sd) / nI (2 ^ n) * nI (2 ^ n) = nI ((x * (2 * sd + 1) + sd) % 2 ^ n) := pk_rem (by omega) (by omega) (by omega)
    rw [f_X7_build_L56, f_X8_build_L50, if_neg (nI_nlt (by omega) (by omega)), if_neg (nI_ge (by omega) (by omega)), if_pos hx6, nI_clamp (n := k) (by omega), hA.1, hBl.1]
    by_cases c1 : w ≤ l.length
    · rw [if_pos (nI_le c1 (by omega)), if_pos (nI_le c1 (by omega))]
      exact ⟨a, b, l, rfl, rfl, hw, hA, hBl, fun _ _ => rfl, fun _ _ _ => rfl, fun _ _ _ => rfl, fun _ => rfl, fun _ _ _ _ => rfl, fun _ _ => rfl, fun _ _ => rfl⟩
    rw [if_neg (nI_ge (by omega) (by omega)), if_neg (nI_ge (by omega) (by omega)), e0, e1, e2, if_pos (fun z => by rw [nI_eq0 (by omega)] at z; omega), z_sbind, nI_1]
    have hm : (x * (2 * sd + 1) + sd) % 2 ^ n < 2 ^ n := Nat.mod_lt _ (by omega)
    generalize (x * (2 * sd + 1) + sd) % 2 ^ n = m at hm
    have hz := z_apart (N := N) ha hB hb hk hw hA hBl hm (by omega) l.length 0 N N (by omega) (by omega) (by omega)
    rw [show nI 0 = (0 : Int32) from rfl, List.drop_zero] at hz
    unfold f_X7_firstAlike f_X8_isApart
    rw [f1_rev ha.1 hn (by omega) (by omega), z_sbind]
    rcases hz with ⟨z1, z2, z3⟩ | ⟨q, hq, z1, z2⟩
    · rw [z1, z2]
      simp only [z_sbind, Sum.elim_inl, ↓reduceIte, if_neg z10]
      have hmem : m ∉ l := fun z => by have := z3 m z; rw [zalike_self] at this; cases this
      obtain ⟨a2, e3, g0, g1, g2, g3⟩ := f3_append hA (show l.length < 64 by omega) (show m < 4096 by omega) (by omega)
      obtain ⟨b2, e4, q0, q1, q2, q3, q4⟩ := f8_put (m := m) hBl hk (by omega)
      rw [e3, e4]
      simp only [z_sbind]
      obtain ⟨a3, b3, l2, u1, u2, u3, u4, u5, u6, u7, u8, u9, u10, u11, u12⟩ := ih (x + 1) (l ++ [m]) a2 b2 fu gu (zis_keep ha (fun j hj => g1 j (by omega))) (zis_keep hB (fun j _ => q1 j)) (zlw_add hw (by omega) hmem hm) g0 q0 (by omega) (by omega) (by omega)
      exact ⟨a3, b3, l2, u1, u2, u3, u4, u5, fun j hj => (u6 j hj).trans (g1 j hj), fun c j hc => (u7 c j hc).trans (g2 c j hc), fun c j hc => (u8 c j hc).trans (g3 c j hc), fun j => (u9 j).trans (q1 j), fun c j h5 h6 => (u10 c j h5 h6).trans (q2 c j h5 h6), fun j hj => (u11 j hj).trans (q3 j hj), fun j hj => (u12 j hj).trans (q4 j (by omega))⟩
    · rw [z1, z2]
      have hne : ¬ nI q = -1 := nI_nneg (by omega)
      simp only [z_sbind, Sum.elim_inr, if_neg hne, ↓reduceIte]
      exact ih (x + 1) l a b fu gu ha hB hw hA hBl (by omega) (by omega) (by omega)
theorem p_build {N : Nat} (hN : 5000 ≤ N) : xP_build N zInv := by
  intro y1 y2 y3 a b hI
  obtain ⟨n, kd, t, d, hb, ha, hB, ⟨ls, hls⟩, hlo, htx, hf, hca⟩ := id hI
  have hn := hb.2.1
  have hp := z_pow n (by omega)
  unfold f_X7_build f_X8_build
  rcases z_isL y1 with ⟨e1, e2⟩ | ⟨k, hk, rfl, e1, e2⟩
  · rw [e1, e2]; exact ⟨_, _, _, rfl, rfl, hI⟩
  rw [e1, e2]
  simp only [z_sbind, if_neg z10]
  have w2 := f8_in y2 0 4095
  have w3 := f8_in y3 0 64
  rw [show (0 : Int32).toInt64 = 0 from rfl, show (4095 : Int32).toInt64 = 4095 from rfl] at w2
  rw [show (0 : Int32).toInt64 = 0 from rfl, show (64 : Int32).toInt64 = 64 from rfl] at w3
  rw [f7_within, f7_within, w2, w3]
  simp only [z_sbind]
  by_cases c2 : y2 < 0 ∨ 4095 < y2
  · rw [if_pos c2]; exact ⟨_, _, _, rfl, rfl, hI⟩
  rw [if_neg c2]
  simp only [if_neg z10]
  by_cases c3 : y3 < 0 ∨ 64 < y3
  · rw [if_pos c3]; exact ⟨_, _, _, rfl, rfl, hI⟩
  rw [if_neg c3]
  have hx6 := z_xin (n := 6) hk (by decide)
  simp only [if_neg z10, if_pos hx6]
  obtain ⟨sd, -, sd1, rfl⟩ := i32_rng (v := y2) 0 4095 (fun z => c2 (Or.inl z)) (fun z => c2 (Or.inr z)) (by decide) (by decide)
  obtain ⟨w, -, w1, rfl⟩ := i32_rng (v := y3) 0 64 (fun z => c3 (Or.inl z)) (fun z => c3 (Or.inr z)) (by decide) (by decide)
  obtain ⟨h1, h2, h3⟩ := hls k hk
  obtain ⟨a3, b3, l2, u1, u2, u3, u4, u5, u6, u7, u8, u9, u10, u11, u12⟩ := z_build (N := N) hb hk sd1 w1 hN (2 ^ n) 0 (ls k) a b N N ha hB h1 h2 h3 (by omega) (by omega) (by omega)
  rw [show nI 0 = (0 : Int32) from rfl] at u1 u2
  rw [f1_all ha.1 hn, hB.1, z_one n (by omega), nI_clamp (by omega), u2]
  simp only [z_sbind]
  rw [u1]
  simp only [z_sbind]
  rw [u4.1, u5.1]
  exact ⟨_, _, _, rfl, rfl, zInv_list hb ha hB hls hlo htx hf hca hk u3 u4 u5 (fun j _ hj => u6 j hj) (fun c j _ hc => u7 c j hc) (fun c j _ hc => u8 c j hc) (fun j _ => u9 j) (fun c j _ h5 h6 => u10 c j h5 h6) u11 u12⟩
