theorem ts_bit {w : Int64} {s : UInt64} {j : Nat} (hj : j < 64) (hs : s.toNat = j) : ((w.toUInt64 >>> s).toInt64 &&& 1) = 0 ↔ w.toBitVec.getLsbD j = false := by
  have e : (w.toUInt64 >>> s).toInt64.toBitVec = w.toBitVec >>> j := by
    apply BitVec.eq_of_toNat_eq
    show (w.toUInt64 >>> s).toNat = _
    rw [UInt64.toNat_shiftRight, hs, Nat.mod_eq_of_lt hj, BitVec.toNat_ushiftRight]
    rfl
  rw [← Int64.toBitVec_inj, Int64.toBitVec_and, e]
  show w.toBitVec >>> j &&& 1#64 = 0#64 ↔ _
  constructor
  · intro h
    have t := congrArg (fun x => x.getLsbD 0) h
    simpa using t
  · intro h
    apply BitVec.eq_of_getLsbD_eq
    intro i hi
    cases i with
    | zero => simp [h]
    | succ i => simp
theorem wb_cu : ∀ k, k < 64 → ((nI k).toInt64.toUInt64 &&& Int64.toUInt64 63) = UInt64.ofNat k := by decide +kernel
theorem zbit_shr {x : Int64} {j : Nat} (hj : j < 64) : (xlushr x (nI j) &&& 1 = 0) ↔ zbit x j = false := by
  unfold xlushr zbit
  rw [wb_cu j hj]
  exact ts_bit hj (UInt64.toNat_ofNat_of_lt' (show j < UInt64.size from Nat.lt_of_lt_of_le hj (by decide)))
theorem zone_bit : ∀ j, j < 64 → ∀ i, i < 64 → zbit ((1 : Int64) <<< ((nI j).toInt64 &&& 63)) i = decide (i = j) := by decide +kernel
theorem zbit_or (x y : Int64) (i : Nat) : zbit (x ||| y) i = (zbit x i || zbit y i) := by simp [zbit]
theorem z_div {m : Nat} (hm : m < 4096) : nI m / 64 = nI (m / 64) := pk_div (d := 64) (by omega) (by decide) (by decide)
theorem z_rem {m : Nat} (hm : m < 4096) : nI m - nI (m / 64) * 64 = nI (m % 64) := by
  have := pk_rem (a := m) (d := 64) (by omega) (by decide) (by decide)
  rw [show nI 64 = (64 : Int32) from rfl, z_div hm] at this
  exact this
theorem f3_holds {a : xT} {k m : Nat} {l : List Nat} (h : zlA a k l) (hm : m < 4096) : f_X3_holds k (nI m) a = some (bI (decide (m ∈ l))) := by
  unfold f_X3_holds
  have hx := z_xin (k := m / 64) (n := 64) (by omega) (by decide)
  rw [if_neg (nI_pos (by omega)), if_neg (show ¬ (4096 : Int32) ≤ nI m from nI_ge (b := 4096) hm (by decide)), z_div hm, if_pos hx, nI_clamp (by omega), z_rem hm]
  have hb := h.2.2 m hm
  by_cases c : m ∈ l
  · rw [if_neg (fun z => by rw [zbit_shr (by omega), hb] at z; simp [c] at z)]; simp [c, bI]
  · rw [if_pos (by rw [zbit_shr (by omega), hb]; simp [c])]; simp [c, bI]
theorem f3_full {a : xT} {k : Nat} {l : List Nat} (v : Int32) (h : zlA a k l) (hl : l.length = 64) : f_X3_append k v a = some (0, a) := by
  unfold f_X3_append
  rw [h.1, hl, if_pos (by decide)]
theorem zgetD_app {l : List Nat} {m i : Nat} (h : i < l.length) : (l ++ [m]).getD i 0 = l.getD i 0 := by
  simp [List.getD, List.getElem?_append_left h]
theorem f3_append {a : xT} {k m : Nat} {l : List Nat} (h : zlA a k l) (hl : l.length < 64) (hm : m < 4096) (hk : k < 7) : ∃ a2, f_X3_append k (nI m) a = some (1, a2) ∧ zlA a2 k (l ++ [m]) ∧ (∀ j, j ≠ 23 + k → gI a2 j = gI a j) ∧ (∀ c j, c ≠ 30 + k → gA a2 c j = gA a c j) ∧ ∀ c j, c ≠ 37 + k → gB a2 c j = gB a c j := by
  have hx := z_xin (k := m / 64) (n := 64) (by omega) (by decide)
  have hy := z_xin (k := l.length) (n := 64) hl (by decide)
  unfold f_X3_append
  rw [h.1, if_neg (show ¬ (64 : Int32) ≤ nI l.length from nI_ge (b := 64) hl (by decide)), if_neg (nI_pos (by omega)), if_pos (show nI m < (4096 : Int32) from nI_lt (b := 4096) hm (by decide)), z_div hm, if_pos hy, if_pos hx, if_pos hx, nI_clamp (by omega), nI_clamp (by omega), z_rem hm, nI_1]
  refine ⟨_, rfl, ⟨?_, fun i hi => ?_, fun x hxl => ?_⟩, fun j hj => ?_, fun c j hc => ?_, fun c j hc => ?_⟩
  · rw [gI_sB, gI_sI, if_pos rfl]; simp
  · rw [gA_sB, gA_sI, gA_sA, if_pos rfl, upd_at]
    rw [List.length_append, List.length_singleton] at hi
    by_cases e : i = l.length
    · rw [if_pos e, e]; simp
    · rw [if_neg e, h.2.1 i (by omega)]
      rw [zgetD_app (by omega)]
  · rw [gB_sB, if_pos rfl, updL_at]
    have hb := h.2.2 x hxl
    by_cases e : x / 64 = m / 64
    · rw [if_pos e, ← e, zbit_or, hb, zone_bit _ (by omega) _ (by omega)]
      by_cases c1 : x ∈ l
      · simp [c1]
      · by_cases c2 : x = m
        · subst c2; simp
        · have : ¬ x % 64 = m % 64 := by omega
          simp [c1, c2, this]
    · rw [if_neg e, hb]
      have : ¬ x = m := fun z => e (by rw [z])
      simp [this]
  · rw [gI_sB, gI_sI, if_neg hj]; rfl
  · rw [gA_sB, gA_sI, gA_sA, if_neg hc]
  · rw [gB_sB, if_neg hc]; rfl
theorem f8_has_loop {b : xT} {k m : Nat} {l : List Nat} (h : zlB b k l) (hk : k < 6) (hl : l.length ≤ 64) (hb : ∀ x ∈ l, x < 4096) (hm : m < 4096) : ∀ r i fuel (q : Bool), i + r = l.length → r < fuel → f_X8_has_L5 (nI k) (nI m) b fuel (bI q) (nI i) = some (bI (q || decide (m ∈ l.drop i))) := by
  intro r
  have hx6 := z_xin (n := 6) hk (by decide)
  induction r with
  | zero =>
    intro i fuel q hi hf
    obtain ⟨fu, rfl⟩ : ∃ fu, fuel = fu + 1 := ⟨fuel - 1, by omega⟩
    rw [f_X8_has_L5, if_pos hx6, nI_clamp (by omega), h.1, if_pos (nI_le (by omega) (by omega)), List.drop_eq_nil_of_le (by omega)]
    simp
  | succ r ih =>
    intro i fuel q hi hf
    obtain ⟨fu, rfl⟩ : ∃ fu, fuel = fu + 1 := ⟨fuel - 1, by omega⟩
    have hil : i < l.length := by omega
    have hd : l.drop i = l.getD i 0 :: l.drop (i + 1) := by
      rw [List.drop_eq_getElem_cons hil]
      simp [hil]
    rw [f_X8_has_L5, if_pos hx6, nI_clamp (by omega), h.1, if_neg (nI_ge (by omega) (by omega)), f8_at h hk hil hl, nI_1]
    simp only [Option.bind_some]
    have i1 := ih (i + 1) fu true (by omega) (by omega)
    have i0 := ih (i + 1) fu false (by omega) (by omega)
    cases q with
    | true =>
      rw [if_neg (by decide)]
      exact i1.trans (by simp)
    | false =>
      rw [if_pos (by decide)]
      have hlt : l.getD i 0 < 4096 := hb _ (by simp [hil])
      by_cases e : l.getD i 0 = m
      · rw [if_pos (by rw [e])]
        refine i1.trans ?_
        rw [hd, e]; simp
      · rw [if_neg (fun z => e ((nI_eq (by omega) (by omega)).mp z))]
        refine i0.trans ?_
        have hiff : (m ∈ l.getD i 0 :: l.drop (i + 1)) ↔ m ∈ l.drop (i + 1) := ⟨fun z => (List.mem_cons.mp z).elim (fun z2 => absurd z2.symm e) id, List.mem_cons_of_mem _⟩
        rw [hd]
        simp only [hiff]
theorem f8_has {b : xT} {k m N : Nat} {l : List Nat} (h : zlB b k l) (hk : k < 6) (hl : l.length ≤ 64) (hb : ∀ x ∈ l, x < 4096) (hm : m < 4096) (hN : 70 ≤ N) : f_X8_has N (nI k) (nI m) b = some (bI (decide (m ∈ l))) := by
  have := f8_has_loop h hk hl hb hm l.length 0 N false (by omega) (by omega)
  rw [show bI false = (0 : Int32) from rfl, show nI 0 = (0 : Int32) from rfl] at this
  unfold f_X8_has
  rw [this]
  simp only [Option.bind_some, List.drop_zero, Bool.false_or, if_pos (bI_g _)]
theorem f8_put {b : xT} {k m : Nat} {l : List Nat} (h : zlB b k l) (hk : k < 6) (hl : l.length < 64) : ∃ b2, f_X8_put (nI k) (nI m) b = some b2 ∧ zlB b2 k (l ++ [m]) ∧ (∀ j, gI b2 j = gI b j) ∧ (∀ c j, c ≠ 45 → c ≠ 46 → gA b2 c j = gA b c j) ∧ (∀ j, j ≠ k → gA b2 45 j = gA b 45 j) ∧ ∀ j, j ≠ 64 * k + l.length → gA b2 46 j = gA b 46 j := by
  have hx6 := z_xin (n := 6) hk (by decide)
  have e : (64 : Int32) * nI k + nI l.length = nI (64 * k + l.length) := by
    rw [show (64 : Int32) = nI 64 from rfl, pk_mul, nI_add]
  unfold f_X8_put
  simp only [if_pos hx6]
  rw [nI_clamp (by omega), h.1, e, if_pos (z_xin (by omega) (by decide)), nI_clamp (by omega), nI_1]
  refine ⟨_, rfl, ⟨?_, fun i hi => ?_⟩, fun j => rfl, fun c j h1 h2 => ?_, fun j hj => ?_, fun j hj => ?_⟩
  · rw [gA_sA, if_pos rfl, upd_at, if_pos rfl]; simp
  · rw [gA_sA, if_neg (by decide), gA_sA, if_pos rfl, upd_at]
    rw [List.length_append, List.length_singleton] at hi
    by_cases e2 : i = l.length
    · rw [if_pos (by omega), e2]; simp
    · rw [if_neg (by omega), h.2 i (by omega), zgetD_app (by omega)]
  · rw [gA_sA, if_neg h1, gA_sA, if_neg h2]
  · rw [gA_sA, if_pos rfl, upd_at, if_neg hj]
  · rw [gA_sA, if_neg (by decide), gA_sA, if_pos rfl, upd_at, if_neg hj]
theorem zlw_add {n m : Nat} {l : List Nat} (h : zlw n l) (h1 : l.length < 64) (h2 : m ∉ l) (h3 : m < 2 ^ n) : zlw n (l ++ [m]) := by
  refine ⟨by rw [List.length_append, List.length_singleton]; omega, ?_, fun x hx => ?_⟩
  · rw [List.nodup_append]
    refine ⟨h.2.1, by simp, fun x hx y hy => ?_⟩
    rw [List.mem_singleton] at hy
    subst hy
    exact fun z => h2 (z ▸ hx)
  · rcases List.mem_append.mp hx with z | z
    · exact h.2.2 x z
    · rw [List.mem_singleton.mp z]; exact h3
