/-! the reference's most: sets as bits of an int -/
def zb32 (x : Int32) (j : Nat) : Bool := x.toBitVec.getLsbD j
def zl32 (x : Int32) : List Nat := (List.range' 0 32).filter (fun j => zb32 x j)
theorem zu_cu : ∀ k, k < 32 → ((nI k).toUInt32 &&& Int32.toUInt32 31) = UInt32.ofNat k := by decide +kernel
theorem zu_shr (x : Int32) {k : Nat} (hk : k < 32) : (xushr x (nI k)).toBitVec = x.toBitVec >>> k := by
  unfold xushr
  rw [zu_cu k hk]
  apply BitVec.eq_of_toNat_eq
  show (x.toUInt32 >>> UInt32.ofNat k).toNat = _
  rw [UInt32.toNat_shiftRight, UInt32.toNat_ofNat_of_lt' (show k < UInt32.size from Nat.lt_of_lt_of_le hk (by decide)), Nat.mod_eq_of_lt hk, BitVec.toNat_ushiftRight]
  rfl
theorem zu_bit (x : Int32) {k : Nat} (hk : k < 32) : (xushr x (nI k)) &&& 1 = nI (if zb32 x k then 1 else 0) := by
  apply Int32.toBitVec_inj.mp
  rw [Int32.toBitVec_and, zu_shr x hk]
  apply BitVec.eq_of_getLsbD_eq
  intro j hj
  have h1 : (1 : Int32).toBitVec.getLsbD j = decide (j = 0) := by
    show (1#32).getLsbD j = _
    cases j with
    | zero => rfl
    | succ j => simp
  rw [BitVec.getLsbD_and, h1, BitVec.getLsbD_ushiftRight]
  unfold zb32
  by_cases c : j = 0
  · subst c
    rw [Nat.add_zero]
    cases x.toBitVec.getLsbD k <;> rfl
  · rw [decide_eq_false c, Bool.and_false]
    cases x.toBitVec.getLsbD k with
    | true => exact (h1.trans (decide_eq_false c)).symm
    | false => show false = (0#32).getLsbD j; simp
theorem zb32_m : ∀ k, k < 32 → ∀ j, j < 32 → zb32 ((1 : Int32) <<< (nI k &&& 31)) j = decide (j = k) := by decide +kernel
theorem zb32_or (x y : Int32) (j : Nat) : zb32 (x ||| y) j = (zb32 x j || zb32 y j) := by simp [zb32]
theorem zb32_andn (x y : Int32) {j : Nat} (hj : j < 32) : zb32 (x &&& (y ^^^ (-1))) j = (zb32 x j && !zb32 y j) := by
  have h1 : ((-1 : Int32).toBitVec).getLsbD j = true := by
    have : (-1 : Int32).toBitVec = BitVec.allOnes 32 := by decide
    rw [this, BitVec.getLsbD_allOnes]; exact decide_eq_true hj
  unfold zb32
  rw [Int32.toBitVec_and, Int32.toBitVec_xor, BitVec.getLsbD_and, BitVec.getLsbD_xor, h1]
  cases x.toBitVec.getLsbD j <;> cases y.toBitVec.getLsbD j <;> rfl
theorem zb32_0 (j : Nat) : zb32 0 j = false := by simp [zb32]
theorem zl32_0 {x : Int32} : x = 0 ↔ zl32 x = [] := by
  unfold zl32
  rw [List.filter_eq_nil_iff]
  constructor
  · intro h j _
    rw [h, zb32_0]; simp
  · intro h
    apply Int32.toBitVec_inj.mp
    apply BitVec.eq_of_getLsbD_eq
    intro j hj
    have := h j (by rw [List.mem_range'_1]; omega)
    have h2 : zb32 x j = false := by simpa using this
    show zb32 x j = zb32 0 j
    rw [h2, zb32_0]
theorem zl32_len (x : Int32) : (zl32 x).length = zfl (fun j => zb32 x j) 0 32 := rfl
theorem f8_b32_loop (x : Int32) : ∀ r i acc fuel, i + r = 32 → r < fuel → f_X8_bits32_L4 x fuel (nI acc) (nI i) = some (nI (acc + zfl (fun j => zb32 x j) i r)) := by
  intro r
  induction r with
  | zero =>
    intro i acc fuel hi hf
    obtain ⟨fu, rfl⟩ : ∃ fu, fuel = fu + 1 := ⟨fuel - 1, by omega⟩
    rw [f_X8_bits32_L4, if_pos (show (32 : Int32) ≤ nI i from nI_le (a := 32) (by omega) (by omega)), zfl_0, Nat.add_zero]
  | succ r ih =>
    intro i acc fuel hi hf
    obtain ⟨fu, rfl⟩ : ∃ fu, fuel = fu + 1 := ⟨fuel - 1, by omega⟩
    rw [f_X8_bits32_L4, if_neg (show ¬ (32 : Int32) ≤ nI i from nI_ge (b := 32) (by omega) (by decide)), zu_bit x (by omega), nI_add, nI_1, ih (i + 1) _ fu (by omega) (by omega), zfl_s, Nat.add_assoc]
theorem f8_b32 (x : Int32) {N : Nat} (hN : 100 ≤ N) : f_X8_bits32 N x = some (nI (zl32 x).length) := by
  have := f8_b32_loop x 32 0 0 N (by omega) (by omega)
  rw [show nI 0 = (0 : Int32) from rfl, Nat.zero_add] at this
  unfold f_X8_bits32
  rw [this, zl32_len]; rfl
theorem zfirst {p : Nat → Bool} {m : Nat} {L : List Nat} : ∀ r i, (List.range' i r).filter p = m :: L → i ≤ m ∧ m < i + r ∧ p m = true ∧ ∀ j, i ≤ j → j < m → p j = false
  | 0, i, h => by cases h
  | r + 1, i, h => by
    rw [List.range'_succ, List.filter_cons] at h
    by_cases c : p i = true
    · rw [if_pos c] at h
      have e : i = m := (List.cons.inj h).1
      subst e
      exact ⟨Nat.le_refl _, by omega, c, fun j h1 h2 => by omega⟩
    · rw [if_neg c] at h
      obtain ⟨h1, h2, h3, h4⟩ := zfirst r (i + 1) h
      refine ⟨by omega, by omega, h3, fun j h5 h6 => ?_⟩
      by_cases e : j = i
      · subst e; simpa using c
      · exact h4 j (by omega) h6
theorem f8_low_loop {b : xT} {k m : Nat} (hk : k < 34) (hm : m < 32) (hb : zb32 (gA b 48 k) m = true) : ∀ r j fuel, j + r = m → (∀ i, j ≤ i → i < m → zb32 (gA b 48 k) i = false) → r < fuel → f_X8_findMost_L205 (nI k) b fuel (nI j) = some (nI m) := by
  intro r
  induction r with
  | zero =>
    intro j fuel hj h0 hf
    obtain ⟨fu, rfl⟩ : ∃ fu, fuel = fu + 1 := ⟨fuel - 1, by omega⟩
    have e : j = m := by omega
    subst e
    rw [f_X8_findMost_L205, if_pos (z_xin hk (by decide)), nI_clamp (n := k) (by omega), zu_bit _ hm, hb, if_neg (by decide)]
  | succ r ih =>
    intro j fuel hj h0 hf
    obtain ⟨fu, rfl⟩ : ∃ fu, fuel = fu + 1 := ⟨fuel - 1, by omega⟩
    rw [f_X8_findMost_L205, if_pos (z_xin hk (by decide)), nI_clamp (n := k) (by omega), zu_bit _ (by omega), h0 j (Nat.le_refl _) (by omega), if_pos (by decide), nI_1]
    exact ih (j + 1) fu (by omega) (fun i h1 h2 => h0 i (by omega) h2) (by omega)
theorem zl32_tail {x : Int32} {m : Nat} {L : List Nat} (h : zl32 x = m :: L) : zl32 (x &&& (((1 : Int32) <<< (nI m &&& 31)) ^^^ (-1))) = L ∧ m < 32 ∧ zb32 x m = true ∧ (∀ j, j < m → zb32 x j = false) ∧ ∀ y ∈ L, y < 32 := by
  obtain ⟨h1, h2, h3, h4⟩ := zfirst 32 0 h
  have hm : m < 32 := by omega
  have hnd : (zl32 x).Nodup := List.Pairwise.filter _ List.nodup_range'
  rw [h] at hnd
  have hmL := (List.nodup_cons.mp hnd).1
  refine ⟨?_, hm, h3, fun j hj => h4 j (Nat.zero_le _) hj, fun y hy => ?_⟩
  · have e : zl32 (x &&& (((1 : Int32) <<< (nI m &&& 31)) ^^^ (-1))) = (zl32 x).filter (fun j => decide (j ≠ m)) := by
      unfold zl32
      rw [List.filter_filter]
      apply List.filter_congr
      intro j hj
      rw [List.mem_range'_1] at hj
      rw [zb32_andn _ _ (by omega), zb32_m m hm j (by omega)]
      by_cases c : j = m
      · simp [c]
      · simp [c]
    rw [e, h, List.filter_cons, if_neg (by simp)]
    exact List.filter_eq_self.mpr (fun y hy => decide_eq_true (fun z => hmL (z ▸ hy)))
  · have : y ∈ zl32 x := by rw [h]; exact List.mem_cons_of_mem _ hy
    unfold zl32 at this
    have := (List.mem_filter.mp this).1
    rw [List.mem_range'_1] at this
    omega
theorem zl32_near {x v : Int32} {A : Nat → Nat → Bool} {m : Nat} {L : List Nat} (h : zl32 x = L) (hv : ∀ y ∈ L, zb32 v y = A m y) : zl32 (x &&& (v ^^^ (-1))) = L.filter (fun k => !A m k) := by
  have e : zl32 (x &&& (v ^^^ (-1))) = (zl32 x).filter (fun j => !zb32 v j) := by
    unfold zl32
    rw [List.filter_filter]
    apply List.filter_congr
    intro j hj
    rw [List.mem_range'_1] at hj
    rw [zb32_andn _ _ (by omega), Bool.and_comm]
  rw [e, h]
  apply List.filter_congr
  intro y hy
  rw [hv y hy]
/-! the stack -/
theorem f8_copy_loop {k : Nat} (hk : k ≤ 33) : ∀ r j b fuel, j + r = k → r < fuel → ∃ b2, f_X8_findMost_L139 (nI k) fuel (nI j) b = some b2 ∧ (∀ i, i < j → gA b2 49 i = gA b 49 i) ∧ (∀ i, j ≤ i → i < k → gA b2 49 i = gA b 47 i) ∧ (∀ i, gI b2 i = gI b i) ∧ ∀ c i, c ≠ 49 → gA b2 c i = gA b c i := by
  intro r
  induction r with
  | zero =>
    intro j b fuel hj hf
    obtain ⟨fu, rfl⟩ : ∃ fu, fuel = fu + 1 := ⟨fuel - 1, by omega⟩
    refine ⟨b, ?_, fun _ _ => rfl, fun i h1 h2 => by omega, fun _ => rfl, fun _ _ _ => rfl⟩
    rw [f_X8_findMost_L139, if_pos (nI_le (by omega) (by omega))]
  | succ r ih =>
    intro j b fuel hj hf
    obtain ⟨fu, rfl⟩ : ∃ fu, fuel = fu + 1 := ⟨fuel - 1, by omega⟩
    rw [f_X8_findMost_L139, if_neg (nI_ge (by omega) (by omega)), if_pos (z_xin (by omega) (by decide)), if_pos (z_xin (by omega) (by decide)), nI_clamp (by omega), nI_1]
    obtain ⟨b2, w1, w2, w3, w4, w5⟩ := ih (j + 1) (sA b 49 (upd (gA b 49) j (gA b 47 j))) fu (by omega) (by omega)
    refine ⟨b2, w1, fun i hi => ?_, fun i h1 h2 => ?_, w4, fun c i hc => ?_⟩
    · rw [w2 i (by omega), gA_sA, if_pos rfl, upd_at, if_neg (by omega)]
    · by_cases e : i = j
      · subst e
        rw [w2 i (by omega), gA_sA, if_pos rfl, upd_at, if_pos rfl]
      · rw [w3 i (by omega) h2, gA_sA, if_neg (by decide)]
    · rw [w5 c i hc, gA_sA, if_neg hc]
def zt116 (N n : Nat) (v4 : Int32) (b : xT) : Option xT :=
    (if xin v4 34 then
    (if ((gA b 48) (Int32.toNatClampNeg v4)) = 0 then
    f_X8_findMost_L116 N n (v4 + (-1)) b
    else
    (if xin v4 34 then
    (f_X8_bits32 N ((gA b 48) (Int32.toNatClampNeg v4))).bind (fun q185 =>
    (if (gI b 9) < (v4 + q185) then
    (f_X8_findMost_L205 v4 b N 0).bind (fun q205 =>
    (if xin v4 34 then
    (if xin v4 34 then
    (if xin v4 34 then
    (if xin v4 34 then
    (if xin q205 32 then
    (if xin (v4 + 1) 34 then
    f_X8_findMost_L116 N n (v4 + 1) (sA (sA (sA b 48 (upd (gA b 48) (Int32.toNatClampNeg v4) (((gA b 48) (Int32.toNatClampNeg v4)) &&& (((1 : Int32) <<< (q205 &&& 31)) ^^^ (-1))))) 47 (upd (gA b 47) (Int32.toNatClampNeg v4) q205)) 48 (upd (upd (gA b 48) (Int32.toNatClampNeg v4) (((gA b 48) (Int32.toNatClampNeg v4)) &&& (((1 : Int32) <<< (q205 &&& 31)) ^^^ (-1)))) (Int32.toNatClampNeg (v4 + 1)) (((upd (gA b 48) (Int32.toNatClampNeg v4) (((gA b 48) (Int32.toNatClampNeg v4)) &&& (((1 : Int32) <<< (q205 &&& 31)) ^^^ (-1)))) (Int32.toNatClampNeg v4)) &&& (((gA b 50) (Int32.toNatClampNeg q205)) ^^^ (-1)))))
    else none)
    else none)
    else none)
    else none)
    else none)
    else none))
    else
    f_X8_findMost_L116 N n (v4 + (-1)) b))
    else none))
    else none)
theorem f8_116_eq (N n : Nat) (v4 : Int32) (b : xT) : f_X8_findMost_L116 N (n + 1) v4 b = if v4 < 0 then some b else if v4 ≤ gI b 9 then zt116 N n v4 b else (f_X8_findMost_L139 v4 N 0 (sI b 9 v4)).bind (fun q => zt116 N n v4 q) := by
  rw [f_X8_findMost_L116]
  rfl
def znt (b : xT) (A : Nat → Nat → Bool) (many : Nat) : Prop := ∀ m, m < many → ∀ k, k < many → zb32 (gA b 50 m) k = A m k
def zbt (b : xT) (R : List Nat) : Prop := gI b 9 = nI R.length ∧ ∀ i, i < R.length → gA b 49 i = nI (R.getD i 0)
def zfd (b b2 : xT) : Prop := (∀ j, j ≠ 9 → gI b2 j = gI b j) ∧ ∀ c j, c ≠ 47 → c ≠ 48 → c ≠ 49 → gA b2 c j = gA b c j
theorem zfd_tr {a b c : xT} (h : zfd a b) (g : zfd b c) : zfd a c := ⟨fun j hj => (g.1 j hj).trans (h.1 j hj), fun x j h1 h2 h3 => (g.2 x j h1 h2 h3).trans (h.2 x j h1 h2 h3)⟩
theorem zfd_refl (a : xT) : zfd a a := ⟨fun _ _ => rfl, fun _ _ _ _ _ => rfl⟩
theorem znt_f {b b2 : xT} {A : Nat → Nat → Bool} {many : Nat} (h : znt b A many) (f : zfd b b2) : znt b2 A many := fun m hm k hk => by rw [f.2 50 m (by decide) (by decide) (by decide)]; exact h m hm k hk
/-- the first step at a level: what stands may be the best so far -/
theorem f8_lvl {b : xT} {P B : List Nat} {N : Nat} (hP : P.length ≤ 32) (hB : B.length ≤ 32) (ht : ∀ i, i < P.length → gA b 47 i = nI (P.getD i 0)) (hbt : zbt b B) (hN : 100 ≤ N) : ∃ b1, (∀ n, f_X8_findMost_L116 N (n + 1) (nI P.length) b = zt116 N n (nI P.length) b1) ∧ zbt b1 (if B.length < P.length then P else B) ∧ (∀ i, gA b1 48 i = gA b 48 i) ∧ (∀ i, gA b1 47 i = gA b 47 i) ∧ zfd b b1 := by
  by_cases c : B.length < P.length
  · obtain ⟨b1, w1, w2, w3, w4, w5⟩ := f8_copy_loop (k := P.length) (by omega) P.length 0 (sI b 9 (nI P.length)) N (by omega) (by omega)
    rw [show nI 0 = (0 : Int32) from rfl] at w1
    rw [if_pos c]
    refine ⟨b1, fun n => ?_, ⟨by rw [w4, gI_sI, if_pos rfl], fun i hi => ?_⟩, fun i => w5 48 i (by decide), fun i => w5 47 i (by decide), fun j hj => by rw [w4, gI_sI, if_neg hj], fun c j h1 h2 h3 => w5 c j h3⟩
    · rw [f8_116_eq, if_neg (nI_pos (by omega)), hbt.1, if_neg (nI_ge c (by omega)), w1, z_sbind]
    · rw [w3 i (Nat.zero_le _) hi]
      exact ht i hi
  · rw [if_neg c]
    refine ⟨b, fun n => ?_, hbt, fun _ => rfl, fun _ => rfl, zfd_refl b⟩
    rw [f8_116_eq, if_neg (nI_pos (by omega)), hbt.1, if_pos (nI_le (by omega) (by omega))]
theorem f8_dfs {A : Nat → Nat → Bool} {many N : Nat} (hmany : many ≤ 32) (hN : 100 ≤ N) : ∀ f L P B b, L.length ≤ f → P.length + L.length ≤ 32 → B.length ≤ 32 → (∀ y ∈ L, y < many) → zl32 (gA b 48 P.length) = L → (∀ i, i < P.length → gA b 47 i = nI (P.getD i 0)) → zbt b B → znt b A many → ∃ s b2, s + 1 ≤ 2 ^ (f + 1) ∧ (∀ fu, f_X8_findMost_L116 N (s + fu) (nI P.length) b = f_X8_findMost_L116 N fu (nI P.length - 1) b2) ∧ zbt b2 (if B.length < (P ++ zW A L).length then P ++ zW A L else B) ∧ (∀ i, i < P.length → gA b2 48 i = gA b 48 i ∧ gA b2 47 i = gA b 47 i) ∧ zfd b b2 := by
  have m1 : ∀ k : Nat, nI k + (-1) = nI k - 1 := fun k => (Int32.sub_eq_add_neg _ _).symm
  have hnil : ∀ f P B b, P.length ≤ 32 → B.length ≤ 32 → zl32 (gA b 48 P.length) = [] → (∀ i, i < P.length → gA b 47 i = nI (P.getD i 0)) → zbt b B → ∃ s b2, s + 1 ≤ 2 ^ (f + 1) ∧ (∀ fu, f_X8_findMost_L116 N (s + fu) (nI P.length) b = f_X8_findMost_L116 N fu (nI P.length - 1) b2) ∧ zbt b2 (if B.length < (P ++ zW A []).length then P ++ zW A [] else B) ∧ (∀ i, i < P.length → gA b2 48 i = gA b 48 i ∧ gA b2 47 i = gA b 47 i) ∧ zfd b b2 := by
    intro f P B b hP hB hx ht hbt
    obtain ⟨b1, k1, k2, k3, k4, k5⟩ := f8_lvl (N := N) hP hB ht hbt hN
    have h2f : 1 ≤ 2 ^ f := Nat.two_pow_pos f
    refine ⟨1, b1, by rw [Nat.pow_succ]; omega, fun fu => ?_, ?_, fun i _ => ⟨k3 i, k4 i⟩, k5⟩
    · rw [show 1 + fu = fu + 1 by omega, k1 fu]
      unfold zt116
      have hxin := z_xin (k := P.length) (n := 34) (by omega) (by decide)
      simp only [if_pos hxin, nI_clamp (show P.length < 2 ^ 31 by omega), k3]
      rw [if_pos (zl32_0.mpr hx), m1]
    · rw [zW_nil, List.append_nil]; exact k2
  intro f
  induction f with
  | zero =>
    intro L P B b hf hPL hB hL hx ht hbt hnt
    have eL : L = [] := List.eq_nil_of_length_eq_zero (by omega)
    subst eL
    exact hnil 0 P B b (by omega) hB hx ht hbt
  | succ f ih =>
    intro L P B b hf hPL hB hL hx ht hbt hnt
    cases L with
    | nil => exact hnil (f + 1) P B b (by omega) hB hx ht hbt
    | cons m L =>
      rw [List.length_cons] at hf hPL
      obtain ⟨b1, k1, k2, k3, k4, k5⟩ := f8_lvl (N := N) (by omega) hB ht hbt hN
      have hxin := z_xin (k := P.length) (n := 34) (by omega) (by decide)
      have hne : ¬ gA b 48 P.length = 0 := fun z => by rw [zl32_0, hx] at z; cases z
      obtain ⟨t1, t2, t3, t4, t5⟩ := zl32_tail hx
      have hlen : (zl32 (gA b 48 P.length)).length = L.length + 1 := by rw [hx, List.length_cons]
      generalize hB1 : (if B.length < P.length then P else B) = B1 at k2
      have hB1l : B1.length ≤ 32 := by rw [← hB1]; split <;> omega
      have h2f : 1 ≤ 2 ^ (f + 1) := Nat.two_pow_pos (f + 1)
      by_cases c : B1.length < P.length + (L.length + 1)
      · have hfl := List.length_filter_le (fun k => !A m k) L
        have hmm : m < many := hL m List.mem_cons_self
        have hL2 : ∀ y ∈ L, y < many := fun y hy => hL y (List.mem_cons_of_mem _ hy)
        have hP1 : (P ++ [m]).length = P.length + 1 := by rw [List.length_append, List.length_singleton]
        have hnt1 := znt_f hnt k5
        have hnear := zl32_near (A := A) (m := m) t1 (fun y hy => hnt1 m hmm y (hL2 y hy))
        generalize hv : gA b 48 P.length &&& (((1 : Int32) <<< (nI m &&& 31)) ^^^ (-1)) = v at t1 hnear
        have hb2 : ∃ b2 : xT, (∀ n, zt116 N n (nI P.length) b1 = f_X8_findMost_L116 N n (nI (P ++ [m]).length) b2) ∧ gA b2 48 (P.length + 1) = v &&& (gA b1 50 m ^^^ (-1)) ∧ gA b2 48 P.length = v ∧ (∀ i, i < P.length → gA b2 48 i = gA b 48 i) ∧ gA b2 47 P.length = nI m ∧ (∀ i, i < P.length → gA b2 47 i = gA b 47 i) ∧ zbt b2 B1 ∧ zfd b b2 := by
          refine ⟨sA (sA (sA b1 48 (upd (gA b1 48) P.length v)) 47 (upd (gA b1 47) P.length (nI m))) 48 (upd (upd (gA b1 48) P.length v) (P.length + 1) (v &&& (gA b1 50 m ^^^ (-1)))), fun n => ?_, ?_, ?_, fun i hi => ?_, ?_, fun i hi => ?_, k2, ?_⟩
          · have hlow := f8_low_loop (b := b1) (k := P.length) (m := m) (by omega) t2 (by rw [k3]; exact t3) m 0 N (by omega) (fun i _ hi => by rw [k3]; exact t4 i hi) (by omega)
            rw [show nI 0 = (0 : Int32) from rfl] at hlow
            unfold zt116
            simp only [if_pos hxin]
            rw [nI_clamp (n := P.length) (by omega), k3, if_neg hne, f8_b32 _ hN, z_sbind, hlen, k2.1, nI_add, if_pos (nI_lt c (by omega)), hlow, z_sbind, if_pos (z_xin t2 (by decide)), nI_1, if_pos (z_xin (by omega) (by decide)), nI_clamp (n := P.length + 1) (by omega), nI_clamp (n := m) (by omega), hv, hP1, upd_at, if_pos rfl]
          · rw [gA_sA, if_pos rfl, upd_at, if_pos rfl]
          · rw [gA_sA, if_pos rfl, upd_at, if_neg (by omega), upd_at, if_pos rfl]
          · rw [gA_sA, if_pos rfl, upd_at, if_neg (by omega), upd_at, if_neg (by omega), k3]
          · rw [gA_sA, if_neg (by decide), gA_sA, if_pos rfl, upd_at, if_pos rfl]
          · rw [gA_sA, if_neg (by decide), gA_sA, if_pos rfl, upd_at, if_neg (by omega), k4]
          · refine zfd_tr k5 ⟨fun _ _ => rfl, fun c j h1 h2 _ => ?_⟩
            rw [gA_sA, if_neg h2, gA_sA, if_neg h1, gA_sA, if_neg h2]
        obtain ⟨b2, q1, q2, q3, q4, q5, q6, q7, q8⟩ := hb2
        have htP : ∀ i, i < (P ++ [m]).length → gA b2 47 i = nI ((P ++ [m]).getD i 0) := fun i hi => by
          rw [hP1] at hi
          by_cases e : i = P.length
          · rw [e, q5]; simp
          · rw [q6 i (by omega), ht i (by omega), zgetD_app (by omega)]
        obtain ⟨s1, b3, r1, r2, r3, r4, r5⟩ := ih (L.filter (fun k => !A m k)) (P ++ [m]) B1 b2 (by omega) (by rw [hP1]; omega) hB1l (fun y hy => hL2 y (List.mem_filter.mp hy).1) (by rw [hP1, q2]; exact hnear) htP q7 (znt_f hnt q8)
        generalize hB2 : (if B1.length < ((P ++ [m]) ++ zW A (L.filter (fun k => !A m k))).length then (P ++ [m]) ++ zW A (L.filter (fun k => !A m k)) else B1) = B2 at r3
        have hB2l : B2.length ≤ 32 := by
          rw [← hB2]
          split
          · have := zW_len A (L.filter (fun k => !A m k))
            rw [List.length_append, hP1]; omega
          · omega
        have q9 := zfd_tr q8 r5
        obtain ⟨s2, b4, u1, u2, u3, u4, u5⟩ := ih L P B2 b3 (by omega) (by omega) hB2l hL2 (by rw [(r4 P.length (by rw [hP1]; omega)).1, q3]; exact t1) (fun i hi => by rw [(r4 i (by rw [hP1]; omega)).2, q6 i hi]; exact ht i hi) r3 (znt_f hnt q9)
        refine ⟨1 + s1 + s2, b4, by rw [Nat.pow_succ]; omega, fun fu => ?_, ?_, fun i hi => ⟨?_, ?_⟩, zfd_tr q9 u5⟩
        · have e3 : nI (P ++ [m]).length - 1 = nI P.length := by rw [hP1]; exact pk_sub (b := 1) (by omega)
          rw [show 1 + s1 + s2 + fu = (s1 + (s2 + fu)) + 1 by omega, k1, q1, r2, e3, u2]
        · rw [zR_step hB1.symm hB2.symm] at u3
          exact u3
        · rw [(u4 i hi).1, (r4 i (by rw [hP1]; omega)).1, q4 i hi]
        · rw [(u4 i hi).2, (r4 i (by rw [hP1]; omega)).2, q6 i hi]
      · refine ⟨1, b1, by rw [Nat.pow_succ]; omega, fun fu => ?_, ?_, fun i _ => ⟨k3 i, k4 i⟩, k5⟩
        · rw [show 1 + fu = fu + 1 by omega, k1 fu]
          unfold zt116
          simp only [if_pos hxin]
          rw [nI_clamp (n := P.length) (by omega), k3, if_neg hne, f8_b32 _ hN, z_sbind, hlen, k2.1, nI_add, if_neg (nI_nlt (by omega) (by omega)), m1]
        · have hW := zW_len A (m :: L)
          rw [List.length_cons] at hW
          have e : (if B.length < (P ++ zW A (m :: L)).length then P ++ zW A (m :: L) else B) = B1 := by
            rw [← hB1] at c ⊢
            by_cases c2 : B.length < P.length
            · rw [if_pos c2] at c; omega
            · rw [if_neg c2] at c ⊢
              rw [if_neg (by rw [List.length_append]; omega)]
          rw [e]
          exact k2
/-! what there is at first, and who is alike to whom -/
theorem f8_near_loop {n kd t d m N : Nat} (v1 v3 : Int32) (hb : zbd n kd t d) (hn5 : n ≤ 5) (hm : m < 2 ^ n) (hN : 20 ≤ N) : ∀ r k b fuel, zis b n kd t d → k + r = 2 ^ n → (∀ j, j < 2 ^ n → zb32 (gA b 50 m) j = (decide (j < k) && zalike n kd t d m j)) → r < fuel → ∃ b2, f_X8_findMost_L54 N v1 (nI (2 ^ n)) v3 (nI m) fuel (nI k) b = some b2 ∧ (∀ j, j < 2 ^ n → zb32 (gA b2 50 m) j = zalike n kd t d m j) ∧ (∀ j, gI b2 j = gI b j) ∧ (∀ c j, (c ≠ 50 ∨ j ≠ m) → gA b2 c j = gA b c j) := by
  have hp : 2 ^ n ≤ 32 := Nat.pow_le_pow_right (show 0 < 2 by decide) hn5
  intro r
  induction r with
  | zero =>
    intro k b fuel ha hk hj hf
    obtain ⟨fu, rfl⟩ : ∃ fu, fuel = fu + 1 := ⟨fuel - 1, by omega⟩
    refine ⟨b, ?_, fun j hj2 => ?_, fun _ => rfl, fun _ _ _ => rfl⟩
    · rw [f_X8_findMost_L54, if_pos (nI_le (by omega) (by omega))]
    · rw [hj j hj2, decide_eq_true (show j < k by omega)]; rfl
  | succ r ih =>
    intro k b fuel ha hk hj hf
    obtain ⟨fu, rfl⟩ : ∃ fu, fuel = fu + 1 := ⟨fuel - 1, by omega⟩
    have hx := z_xin (k := m) (n := 32) (by omega) (by decide)
    have step : ∀ v : Int32, (∀ j, j < 2 ^ n → zb32 v j = (decide (j < k + 1) && zalike n kd t d m j)) → ∃ b2, f_X8_findMost_L54 N v1 (nI (2 ^ n)) v3 (nI m) fu (nI (k + 1)) (sA b 50 (upd (gA b 50) m v)) = some b2 ∧ (∀ j, j < 2 ^ n → zb32 (gA b2 50 m) j = zalike n kd t d m j) ∧ (∀ j, gI b2 j = gI b j) ∧ (∀ c j, (c ≠ 50 ∨ j ≠ m) → gA b2 c j = gA b c j) := fun v hv => by
      obtain ⟨b2, w1, w2, w3, w4⟩ := ih (k + 1) (sA b 50 (upd (gA b 50) m v)) fu ha (by omega) (fun j hj2 => by rw [gA_sA, if_pos rfl, upd_at, if_pos rfl]; exact hv j hj2) (by omega)
      refine ⟨b2, w1, w2, w3, fun c j hc => ?_⟩
      rw [w4 c j hc, gA_sA]
      by_cases e : c = 50
      · rw [if_pos e, upd_at, if_neg (hc.resolve_left (fun z => z e)), e]
      · rw [if_neg e]
    rw [f_X8_findMost_L54, if_neg (nI_ge (by omega) (by omega)), if_pos hx, f8_alike ha hb hN hm (by omega), z_sbind, if_pos hx, if_pos hx, nI_clamp (n := m) (by omega), nI_1]
    cases q : zalike n kd t d m k with
    | false =>
      rw [if_pos (by decide)]
      refine step _ (fun j hj2 => ?_)
      rw [zb32_or, zb32_0, Bool.or_false, hj j hj2]
      by_cases e : j = k
      · subst e; rw [q]; simp
      · have : (j < k) ↔ (j < k + 1) := by omega
        simp [this]
    | true =>
      rw [if_neg (by decide)]
      refine step _ (fun j hj2 => ?_)
      rw [zb32_or, zb32_m k (by omega) j (by omega), hj j hj2]
      by_cases e : j = k
      · subst e; rw [q]; simp
      · have : (j < k) ↔ (j < k + 1) := by omega
        simp [this, e]
theorem f8_init_loop {n kd t d N : Nat} (w : Int32) (hb : zbd n kd t d) (hn5 : n ≤ 5) (hN : 5000 ≤ N) : ∀ r m x b fuel, zis b n kd t d → m + r = 2 ^ n → (∀ i, i < m → ∀ k, k < 2 ^ n → zb32 (gA b 50 i) k = zalike n kd t d i k) → (∀ j, j < 32 → zb32 x j = (decide (j < m) && decide (w = -1 ∨ nI (zpc j) = w))) → r < fuel → ∃ y b2, f_X8_findMost_L12 N w (nI (2 ^ n)) fuel x (nI m) b = some (y, b2) ∧ znt b2 (zalike n kd t d) (2 ^ n) ∧ (∀ j, j < 32 → zb32 y j = (decide (j < 2 ^ n) && decide (w = -1 ∨ nI (zpc j) = w))) ∧ (∀ j, gI b2 j = gI b j) ∧ ∀ c j, c ≠ 50 → gA b2 c j = gA b c j := by
  have hp : 2 ^ n ≤ 32 := Nat.pow_le_pow_right (show 0 < 2 by decide) hn5
  intro r
  induction r with
  | zero =>
    intro m x b fuel ha hm hnt hx hf
    obtain ⟨fu, rfl⟩ : ∃ fu, fuel = fu + 1 := ⟨fuel - 1, by omega⟩
    have e : m = 2 ^ n := by omega
    subst e
    refine ⟨x, b, ?_, hnt, hx, fun _ => rfl, fun _ _ _ => rfl⟩
    rw [f_X8_findMost_L12, if_pos (nI_le (by omega) (by omega))]
  | succ r ih =>
    intro m x b fuel ha hm hnt hx hf
    obtain ⟨fu, rfl⟩ : ∃ fu, fuel = fu + 1 := ⟨fuel - 1, by omega⟩
    have hxm := z_xin (k := m) (n := 32) (by omega) (by decide)
    have step : ∀ v : Int32, (∀ j, j < 32 → zb32 v j = (decide (j < m + 1) && decide (w = -1 ∨ nI (zpc j) = w))) → ∃ y b2, (f_X8_findMost_L54 N w (nI (2 ^ n)) v (nI m) N 0 (sA b 50 (upd (gA b 50) m 0))).bind (fun q54 => f_X8_findMost_L12 N w (nI (2 ^ n)) fu v (nI (m + 1)) q54) = some (y, b2) ∧ znt b2 (zalike n kd t d) (2 ^ n) ∧ (∀ j, j < 32 → zb32 y j = (decide (j < 2 ^ n) && decide (w = -1 ∨ nI (zpc j) = w))) ∧ (∀ j, gI b2 j = gI b j) ∧ ∀ c j, c ≠ 50 → gA b2 c j = gA b c j := fun v hv => by
      obtain ⟨b1, w1, w2, w3, w4⟩ := f8_near_loop (N := N) w v hb hn5 (show m < 2 ^ n by omega) (by omega) (2 ^ n) 0 (sA b 50 (upd (gA b 50) m 0)) N ha (by omega) (fun j hj => by rw [gA_sA, if_pos rfl, upd_at, if_pos rfl, zb32_0, decide_eq_false (Nat.not_lt_zero j)]; rfl) (by omega)
      rw [show nI 0 = (0 : Int32) from rfl] at w1
      rw [w1, z_sbind]
      obtain ⟨y, b2, u1, u2, u3, u4, u5⟩ := ih (m + 1) v b1 fu (zis_keep ha (fun j _ => w3 j)) (by omega) (fun i hi k hk => by
        by_cases e : i = m
        · rw [e]; exact w2 k hk
        · rw [w4 50 i (Or.inr e), gA_sA, if_pos rfl, upd_at, if_neg e]
          exact hnt i (by omega) k hk) hv (by omega)
      refine ⟨y, b2, u1, u2, u3, fun j => (u4 j).trans (w3 j), fun c j hc => ?_⟩
      rw [u5 c j hc, w4 c j (Or.inl hc), gA_sA, if_neg hc]
    have yes : (w = -1 ∨ nI (zpc m) = w) → ∀ j, j < 32 → zb32 (x ||| ((1 : Int32) <<< (nI m &&& 31))) j = (decide (j < m + 1) && decide (w = -1 ∨ nI (zpc j) = w)) := fun hq j hj => by
      rw [zb32_or, zb32_m m (by omega) j hj, hx j hj]
      by_cases e : j = m
      · subst e; simp [hq]
      · have : (j < m) ↔ (j < m + 1) := by omega
        simp [this, e]
    rw [f_X8_findMost_L12, if_neg (nI_ge (by omega) (by omega)), z_b8 (by omega) (show m < 4096 by omega)]
    simp only [if_pos hxm]
    rw [nI_clamp (n := m) (by omega), nI_1, z_sbind]
    by_cases c1 : w = -1
    · rw [if_pos c1]
      exact step _ (yes (Or.inl c1))
    · rw [if_neg c1]
      by_cases c2 : nI (zpc m) = w
      · rw [if_pos c2]
        exact step _ (yes (Or.inr c2))
      · rw [if_neg c2]
        refine step _ (fun j hj => ?_)
        rw [zb32_or, zb32_0, Bool.or_false, hx j hj]
        by_cases e : j = m
        · subst e; simp [c1, c2]
        · have : (j < m) ↔ (j < m + 1) := by omega
          simp [this]
theorem f8_find {b : xT} {n kd t d N : Nat} (w : Int32) (h : zis b n kd t d) (hb : zbd n kd t d) (hn5 : n ≤ 5) (hN : 2 ^ 40 ≤ N) : ∃ b2, f_X8_findMost N w b = some b2 ∧ zbt b2 (zW (zalike n kd t d) (zL0 n w)) ∧ (∀ j, j ≠ 9 → gI b2 j = gI b j) ∧ ∀ c j, (c < 47 ∨ 50 < c) → gA b2 c j = gA b c j := by
  have hp : 2 ^ n ≤ 32 := Nat.pow_le_pow_right (show 0 < 2 by decide) hn5
  have hp0 : 0 < 2 ^ n := Nat.two_pow_pos n
  obtain ⟨y, b1, u1, u2, u3, u4, u5⟩ := f8_init_loop (N := N) w hb hn5 (by omega) (2 ^ n) 0 0 b N h (by omega) (fun i hi => by omega) (fun j hj => by rw [zb32_0, decide_eq_false (Nat.not_lt_zero j)]; rfl) (by omega)
  rw [show nI 0 = (0 : Int32) from rfl] at u1
  have hL : zl32 y = zL0 n w := by
    unfold zl32 zL0
    rw [show 32 = 2 ^ n + (32 - 2 ^ n) by omega, ← List.range'_append_1, List.filter_append]
    have e2 : (List.range' (0 + 2 ^ n) (32 - 2 ^ n)).filter (fun j => zb32 y j) = [] := by
      rw [List.filter_eq_nil_iff]
      intro j hj
      rw [List.mem_range'_1] at hj
      rw [u3 j (by omega), decide_eq_false (show ¬ j < 2 ^ n by omega)]
      simp
    rw [e2, List.append_nil]
    apply List.filter_congr
    intro j hj
    rw [List.mem_range'_1] at hj
    rw [u3 j (by omega), decide_eq_true (show j < 2 ^ n by omega), Bool.true_and]
  have hLl : (zL0 n w).length ≤ 32 := by
    have := List.length_filter_le (fun m => decide (w = -1 ∨ nI (zpc m) = w)) (List.range' 0 (2 ^ n))
    rw [List.length_range'] at this
    have e : (zL0 n w).length = ((List.range' 0 (2 ^ n)).filter (fun m => decide (w = -1 ∨ nI (zpc m) = w))).length := rfl
    omega
  have hLm : ∀ x ∈ zL0 n w, x < 2 ^ n := fun x hx => by
    have := (List.mem_filter.mp hx).1
    rw [List.mem_range'_1] at this
    omega
  obtain ⟨s, b3, v1, v2, v3, v4, v5⟩ := f8_dfs (N := N) hp (by omega) 32 (zL0 n w) [] [] (sA (sI b1 9 0) 48 (upd (gA b1 48) 0 y)) hLl (by rw [List.length_nil]; omega) (by simp) hLm (by rw [List.length_nil, gA_sA, if_pos rfl, upd_at, if_pos rfl]; exact hL) (fun i hi => absurd hi (Nat.not_lt_zero i)) ⟨rfl, fun i hi => absurd hi (Nat.not_lt_zero i)⟩ u2
  have hfin := v2 (N - s)
  rw [show s + (N - s) = N by omega] at hfin
  obtain ⟨fu, hfu⟩ : ∃ fu, N - s = fu + 1 := ⟨N - s - 1, by omega⟩
  rw [hfu, f8_116_eq, if_pos (show nI ([] : List Nat).length - 1 < 0 by decide), show nI ([] : List Nat).length = (0 : Int32) from rfl] at hfin
  refine ⟨b3, ?_, ?_, fun j hj => ?_, fun c j hc => ?_⟩
  · unfold f_X8_findMost
    rw [h.1, z_one n (by omega), u1, z_sbind, if_pos (show xin 0 34 from z_xin (k := 0) (n := 34) (by decide) (by decide)), z_clamp0]
    rw [hfin, z_sbind]
  · rw [List.nil_append, List.length_nil] at v3
    by_cases c : 0 < (zW (zalike n kd t d) (zL0 n w)).length
    · rw [if_pos c] at v3; exact v3
    · rw [if_neg c] at v3
      have : zW (zalike n kd t d) (zL0 n w) = [] := List.eq_nil_of_length_eq_zero (by omega)
      rw [this]; exact v3
  · rw [v5.1 j hj, gI_sA, gI_sI, if_neg hj, u4]
  · rw [v5.2 c j (by omega) (by omega) (by omega), gA_sA, if_neg (by omega), gA_sI, u5 c j (by omega)]
theorem p_most {N : Nat} (hN : 2 ^ 40 ≤ N) : xP_most N zInv := by
  intro y1 y2 a b hI
  obtain ⟨n, kd, t, d, hb, ha, hB, hls, hlo, htx, hf, hca⟩ := id hI
  have hn := hb.2.1
  unfold f_X7_most f_X8_most
  have w1 := f8_in y1 (-1) 5
  rw [show (-1 : Int32).toInt64 = -1 from rfl, show (5 : Int32).toInt64 = 5 from rfl] at w1
  rw [f7_within, w1]
  simp only [z_sbind]
  by_cases c : y1 < -1 ∨ 5 < y1
  · rw [if_pos c]; exact ⟨_, _, _, rfl, rfl, hI⟩
  rw [if_neg c]
  simp only [if_neg z10]
  rw [ha.1, hB.1]
  by_cases c5 : n ≤ 5
  · have hp : 2 ^ n ≤ 32 := Nat.pow_le_pow_right (show 0 < 2 by decide) c5
    rw [if_pos (show nI n ≤ (5 : Int32) from nI_le (b := 5) c5 (by decide)), if_pos (show nI n ≤ (5 : Int32) from nI_le (b := 5) c5 (by decide))]
    have hsk : ∃ a2, f_X2_seek N y1 a = some a2 ∧ zfm a a2 ∧ gI a2 15 = y1 ∧ gI a2 14 = nI (zW (zalike n kd t d) (zL0 n y1)).length ∧ ∀ i, i < (zW (zalike n kd t d) (zL0 n y1)).length → gA a2 16 i = nI ((zW (zalike n kd t d) (zL0 n y1)).getD i 0) := by
      rw [f2_seek_eq]
      obtain ⟨a2, k1, k2, k3, k4, k5, k6⟩ := f2_sk (N := N) y1 ha hb c5 (by omega)
      by_cases q1 : gI a 16 = 0
      · rw [if_pos q1]
        exact ⟨a2, k1, k2, k4, k5, k6⟩
      · rw [if_neg q1]
        by_cases q2 : gI a 15 = y1
        · rw [if_pos q2]
          rcases hca with z | ⟨-, r, z1, z2, z3⟩
          · exact absurd z q1
          · unfold zmost at z1
            rw [q2] at z1
            subst z1
            exact ⟨a, rfl, zfm_refl a, q2, z2, z3⟩
        · rw [if_neg q2]
          exact ⟨a2, k1, k2, k4, k5, k6⟩
    obtain ⟨a2, k1, k2, k3, k4, k5⟩ := hsk
    obtain ⟨b2, e1, e2, e3, e4⟩ := f8_find (N := N) y1 hB hb c5 hN
    have hinv : zInv a2 b2 := by
      refine ⟨n, kd, t, d, hb, zis_keep ha (fun j hj => k2.1 j (by omega)), zis_keep hB (fun j hj => e3 j (by omega)), ?_, ?_, ?_, ?_, ?_⟩
      · exact zls_keep hls (fun k hk => k2.1 _ (by omega)) (fun k i hk => k2.2.1 _ _ (by omega) (by omega)) (fun k i hk => k2.2.2 _ _ (by omega)) (fun k => e4 _ _ (by decide)) (fun k => e4 _ _ (by decide))
      · exact zlo_keep hlo (fun i => k2.2.1 _ _ (by decide) (by decide)) (fun i => e4 _ _ (by decide))
      · exact ztx_keep htx (k2.1 _ (by decide)) (e3 _ (by decide)) (fun i => k2.2.1 _ _ (by decide) (by decide)) (fun i => e4 _ _ (by decide))
      · rw [k2.1 11 (by decide), e3 15 (by decide)]; exact hf
      · exact Or.inr ⟨c5, _, by unfold zmost; rw [k3], k4, k5⟩
    rw [k1, e1]
    simp only [z_sbind]
    rw [k4, e2.1]
    have hWl : (zW (zalike n kd t d) (zL0 n y1)).length ≤ 32 := by
      have h1 := zW_len (zalike n kd t d) (zL0 n y1)
      have := List.length_filter_le (fun m => decide (y1 = -1 ∨ nI (zpc m) = y1)) (List.range' 0 (2 ^ n))
      rw [List.length_range'] at this
      have e : (zL0 n y1).length = ((List.range' 0 (2 ^ n)).filter (fun m => decide (y1 = -1 ∨ nI (zpc m) = y1))).length := rfl
      omega
    by_cases q : y2 = -1
    · rw [if_pos q, if_pos q]; exact ⟨_, _, _, rfl, rfl, hinv⟩
    · rw [if_neg q, if_neg q]
      have w2 := f8_in y2 0 (nI (zW (zalike n kd t d) (zL0 n y1)).length - 1)
      rw [show (0 : Int32).toInt64 = 0 from rfl] at w2
      rw [f7_within, w2]
      simp only [z_sbind]
      rcases z_idx y2 (len := (zW (zalike n kd t d) (zL0 n y1)).length) (by omega) with z | ⟨z, i, hi, rfl⟩
      · rw [if_pos z]; exact ⟨_, _, _, rfl, rfl, hinv⟩
      · rw [if_neg z, if_neg z10, if_neg z10, if_pos (z_xin (by omega) (by decide)), if_pos (z_xin (by omega) (by decide)), nI_clamp (by omega), k5 i hi, e2.2 i hi]
        exact ⟨_, _, _, rfl, rfl, hinv⟩
  · rw [if_neg (show ¬ nI n ≤ (5 : Int32) from nI_ge (a := 5) (by omega) (by omega)), if_neg (show ¬ nI n ≤ (5 : Int32) from nI_ge (a := 5) (by omega) (by omega))]
    exact ⟨_, _, _, rfl, rfl, hI⟩
