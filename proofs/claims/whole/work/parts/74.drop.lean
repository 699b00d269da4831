/-! drop -/
theorem zer_get {l : List Nat} {i j : Nat} : (l.eraseIdx i).getD j 0 = if j < i then l.getD j 0 else l.getD (j + 1) 0 := by
  simp only [List.getD]
  rw [List.getElem?_eraseIdx]
  split <;> rfl
theorem zer_mem {l : List Nat} {i x : Nat} (hn : l.Nodup) (hi : i < l.length) : x ∈ l.eraseIdx i ↔ x ∈ l ∧ x ≠ l.getD i 0 := by
  rw [List.mem_eraseIdx_iff_getElem?]
  have e : l[i]? = some (l.getD i 0) := by simp [hi]
  constructor
  · rintro ⟨j, hj, h⟩
    refine ⟨List.mem_of_getElem? h, fun z => hj ?_⟩
    rw [z, ← e] at h
    exact ((List.getElem?_inj hi hn).mp h.symm).symm
  · rintro ⟨h1, h2⟩
    obtain ⟨j, hj⟩ := List.mem_iff_getElem?.mp h1
    refine ⟨j, fun z => h2 ?_, hj⟩
    rw [z, e] at hj
    exact (Option.some.inj hj).symm
theorem zbit_andn (x y : Int64) {i : Nat} (hi : i < 64) : zbit (x &&& (y ^^^ (-1))) i = (zbit x i && !zbit y i) := by
  have h1 : ((-1 : Int64).toBitVec).getLsbD i = true := by
    have : (-1 : Int64).toBitVec = BitVec.allOnes 64 := by decide
    rw [this, BitVec.getLsbD_allOnes]; exact decide_eq_true hi
  unfold zbit
  rw [Int64.toBitVec_and, Int64.toBitVec_xor, BitVec.getLsbD_and, BitVec.getLsbD_xor, h1]
  cases x.toBitVec.getLsbD i <;> cases y.toBitVec.getLsbD i <;> rfl
theorem f3_remove {a : xT} {k i : Nat} {l : List Nat} (h : zlA a k l) (hl : l.length ≤ 64) (hn : l.Nodup) (hlt : ∀ x ∈ l, x < 4096) (hi : i < l.length) : ∃ a2, f_X3_remove k (nI i) a = some a2 ∧ zlA a2 k (l.eraseIdx i) ∧ (∀ j, j ≠ 23 + k → gI a2 j = gI a j) ∧ (∀ c j, c ≠ 30 + k → gA a2 c j = gA a c j) ∧ ∀ c j, c ≠ 37 + k → gB a2 c j = gB a c j := by
  have hm := hlt _ (z_get hi)
  have hx := z_xin (k := l.getD i 0 / 64) (n := 64) (by omega) (by decide)
  have hy := z_xin (k := i) (n := 64) (by omega) (by decide)
  have s1 : nI l.length - 1 = nI (l.length - 1) := pk_sub (b := 1) (by omega)
  have s2 : nI (l.length - 1) - nI i = nI (l.length - 1 - i) := pk_sub (by omega)
  have hlen : (l.eraseIdx i).length = l.length - 1 := List.length_eraseIdx_of_lt hi
  unfold f_X3_remove
  rw [if_neg (nI_pos (by omega)), h.1, if_pos (nI_lt hi (by omega)), if_pos hy, nI_clamp (n := i) (by omega), h.2.1 i hi, z_div hm, if_pos hx, if_pos hx, z_rem hm, nI_clamp (n := l.getD i 0 / 64) (by omega)]
  simp only [gI_sI, ↓reduceIte]
  rw [s1, s2, nI_1, nI_clamp (n := i + 1) (by omega), nI_clamp (n := l.length - 1 - i) (by omega), if_pos ⟨nI_pos (by omega), nI_pos (by omega), nI_pos (by omega), by omega, by omega⟩]
  refine ⟨_, rfl, ⟨?_, fun j hj => ?_, fun x hxl => ?_⟩, fun j hj => ?_, fun c j hc => ?_, fun c j hc => ?_⟩
  · rw [gI_sA, gI_sI, if_pos rfl, hlen]
  · rw [hlen] at hj
    rw [gA_sA, if_pos rfl, zer_get]
    unfold va_cpy
    by_cases c : j < i
    · rw [if_neg (by omega), if_pos c, h.2.1 j (by omega)]
    · rw [if_pos (by omega), if_neg c, show i + 1 + (j - i) = j + 1 by omega, h.2.1 (j + 1) (by omega)]
  · rw [gB_sA, gB_sI, gB_sB, if_pos rfl, updL_at]
    have hb := h.2.2 x hxl
    have hz := zer_mem (x := x) hn hi
    by_cases e : x / 64 = l.getD i 0 / 64
    · rw [if_pos e, ← e, zbit_andn _ _ (by omega), hb, zone_bit _ (by omega) _ (by omega)]
      by_cases c2 : x = l.getD i 0
      · have : ¬ x ∈ l.eraseIdx i := fun z => (hz.mp z).2 c2
        rw [decide_eq_false this, ← c2]
        simp
      · have h3 : ¬ x % 64 = l.getD i 0 % 64 := by omega
        have h4 : (x ∈ l.eraseIdx i) ↔ x ∈ l := hz.trans ⟨fun z => z.1, fun z => ⟨z, c2⟩⟩
        rw [decide_eq_false h3]
        simp only [h4, Bool.not_false, Bool.and_true]
    · rw [if_neg e, hb]
      have c2 : ¬ x = l.getD i 0 := fun z => e (by rw [z])
      have h4 : (x ∈ l.eraseIdx i) ↔ x ∈ l := hz.trans ⟨fun z => z.1, fun z => ⟨z, c2⟩⟩
      simp [h4]
  · rw [gI_sA, gI_sI, if_neg hj]; rfl
  · rw [gA_sA, if_neg hc]; rfl
  · rw [gB_sA, gB_sI, gB_sB, if_neg hc]
theorem f8_drop_loop {k i : Nat} {l : List Nat} (hk : k < 6) (hl : l.length ≤ 64) (hi : i < l.length) : ∀ r j b fuel, gA b 45 k = nI (l.length - 1) → (∀ x, x < j → gA b 46 (64 * k + x) = nI ((l.eraseIdx i).getD x 0)) → (∀ x, j ≤ x → x < l.length → gA b 46 (64 * k + x) = nI (l.getD x 0)) → i ≤ j → j + r = l.length - 1 → r < fuel → ∃ b2, f_X8_drop_L25 (nI k) fuel (nI j) b = some b2 ∧ zlB b2 k (l.eraseIdx i) ∧ (∀ j, gI b2 j = gI b j) ∧ (∀ c j, c ≠ 46 → gA b2 c j = gA b c j) ∧ ∀ j, (j < 64 * k ∨ 64 * k + 64 ≤ j) → gA b2 46 j = gA b 46 j := by
  have hx6 := z_xin (n := 6) hk (by decide)
  have hlen : (l.eraseIdx i).length = l.length - 1 := List.length_eraseIdx_of_lt hi
  intro r
  induction r with
  | zero =>
    intro j b fuel h1 h2 h3 hj hr hf
    obtain ⟨fu, rfl⟩ : ∃ fu, fuel = fu + 1 := ⟨fuel - 1, by omega⟩
    refine ⟨b, ?_, ⟨by rw [hlen]; exact h1, fun x hx => h2 x (by omega)⟩, fun _ => rfl, fun _ _ _ => rfl, fun _ _ => rfl⟩
    rw [f_X8_drop_L25, if_pos hx6, nI_clamp (by omega), h1, if_pos (nI_le (by omega) (by omega))]
  | succ r ih =>
    intro j b fuel h1 h2 h3 hj hr hf
    obtain ⟨fu, rfl⟩ : ∃ fu, fuel = fu + 1 := ⟨fuel - 1, by omega⟩
    have e1 : (64 : Int32) * nI k + nI j = nI (64 * k + j) := by
      rw [show (64 : Int32) = nI 64 from rfl, pk_mul, nI_add]
    rw [f_X8_drop_L25, if_pos hx6, nI_clamp (n := k) (by omega), h1, if_neg (nI_ge (by omega) (by omega)), e1, nI_1, nI_1, if_pos (z_xin (by omega) (by decide)), if_pos (z_xin (by omega) (by decide)), nI_clamp (n := 64 * k + j) (by omega), nI_clamp (n := 64 * k + j + 1) (by omega)]
    have q1 : ∀ x, x < j + 1 → gA (sA b 46 (upd (gA b 46) (64 * k + j) (gA b 46 (64 * k + j + 1)))) 46 (64 * k + x) = nI ((l.eraseIdx i).getD x 0) := by
      intro x hx
      rw [gA_sA, if_pos rfl, upd_at]
      by_cases c : x = j
      · subst c
        rw [if_pos rfl, zer_get, if_neg (by omega)]
        exact h3 (x + 1) (by omega) (by omega)
      · rw [if_neg (by omega)]
        exact h2 x (by omega)
    have q2 : ∀ x, j + 1 ≤ x → x < l.length → gA (sA b 46 (upd (gA b 46) (64 * k + j) (gA b 46 (64 * k + j + 1)))) 46 (64 * k + x) = nI (l.getD x 0) := by
      intro x hx hx2
      rw [gA_sA, if_pos rfl, upd_at, if_neg (by omega)]
      exact h3 x (by omega) hx2
    obtain ⟨b2, e2, w0, w1, w2, w3⟩ := ih (j + 1) (sA b 46 (upd (gA b 46) (64 * k + j) (gA b 46 (64 * k + j + 1)))) fu h1 q1 q2 (by omega) (by omega) (by omega)
    refine ⟨b2, e2, w0, w1, fun c x hc => (w2 c x hc).trans ?_, fun x hx => (w3 x hx).trans ?_⟩
    · rw [gA_sA, if_neg hc]
    · rw [gA_sA, if_pos rfl, upd_at, if_neg (by omega)]
theorem p_drop {N : Nat} (hN : 5000 ≤ N) : xP_drop N zInv := by
  intro y1 y2 a b hI
  obtain ⟨n, kd, t, d, hb, ha, hB, ⟨ls, hls⟩, hlo, htx, hf, hca⟩ := id hI
  unfold f_X7_drop f_X8_drop
  rcases z_isM hls y1 y2 with ⟨e3, e4⟩ | ⟨k, i, hk, hi, rfl, rfl, e3, e4⟩
  · rw [e3, e4]; exact ⟨_, _, _, rfl, rfl, hI⟩
  rw [e3, e4]
  have hx6 := z_xin (n := 6) hk (by decide)
  simp only [Option.bind_some, if_neg z10, if_pos hx6]
  obtain ⟨h1, h2, h3⟩ := hls k hk
  have hl := h1.1
  have hn := hb.2.1
  have s1 : nI (ls k).length - 1 = nI ((ls k).length - 1) := pk_sub (b := 1) (by omega)
  have hlen : ((ls k).eraseIdx i).length = (ls k).length - 1 := List.length_eraseIdx_of_lt hi
  obtain ⟨a2, e, g0, g1, g2, g3⟩ := f3_remove h2 hl h1.2.1 (zlw_lt h1 hn) hi
  have hj0 : gA (sA b 45 (upd (gA b 45) k (nI ((ls k).length - 1)))) 45 k = nI ((ls k).length - 1) := by
    rw [gA_sA, if_pos rfl, upd_at, if_pos rfl]
  obtain ⟨b2, u0, u1, u2, u3, u4⟩ := f8_drop_loop hk hl hi ((ls k).length - 1 - i) i (sA b 45 (upd (gA b 45) k (nI ((ls k).length - 1)))) N hj0 (fun x hx => by rw [gA_sA, if_neg (by decide), zer_get, if_pos hx]; exact h3.2 x (by omega)) (fun x hx hx2 => by rw [gA_sA, if_neg (by decide)]; exact h3.2 x hx2) (Nat.le_refl _) (by omega) (by omega)
  rw [nI_clamp (n := k) (by omega), e, h3.1, s1, u0]
  simp only [Option.bind_some]
  rw [g0.1, u1.1]
  refine ⟨_, _, _, rfl, rfl, zInv_list (k := k) (l := (ls k).eraseIdx i) hb ha hB hls hlo htx hf hca hk ⟨by omega, h1.2.1.eraseIdx i, fun m hm => h1.2.2 m (List.mem_of_mem_eraseIdx hm)⟩ g0 u1 (fun j _ hj => g1 j hj) (fun c j _ hc => g2 c j hc) (fun c j _ hc => g3 c j hc) (fun j _ => u2 j) (fun c j _ h5 h6 => ?_) (fun j hj => ?_) (fun j hj => ?_)⟩
  · rw [u3 c j h6, gA_sA, if_neg h5]
  · rw [u3 45 j (by decide), gA_sA, if_pos rfl, upd_at, if_neg hj]
  · rw [u4 j hj, gA_sA, if_neg (by decide)]
