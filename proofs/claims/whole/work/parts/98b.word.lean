/-! words -/
def zwds : List (List Nat) := [[110, 111, 116], [115, 117, 109], [112, 105, 110, 115], [104, 97, 115], [114, 117, 110, 115], [105, 110], [116, 117, 114, 110, 115], [97, 110, 100], [111, 114], [111, 102]]
def zwd (k : Nat) : List Nat := zwds.getD k []
def zltr (c : Nat) : Prop := 97 ≤ c ∧ c ≤ 122
theorem zwd_str : ∀ k, k < 10 → f_strlen k = nI (zwd k).length ∧ 2 ≤ (zwd k).length ∧ (zwd k).length ≤ 5 := by decide +kernel
theorem zwd_chr : ∀ k, k < 10 → ∀ i, i < 5 → i < (zwd k).length → f_strchr k (nI i) = some (nI ((zwd k).getD i 0)) ∧ 97 ≤ (zwd k).getD i 0 ∧ (zwd k).getD i 0 ≤ 122 := by decide +kernel
theorem zkd_1 {c : Nat} : zkd c = 1 ↔ 97 ≤ c ∧ c ≤ 122 := by
  unfold zkd
  by_cases h : 97 ≤ c ∧ c ≤ 122
  · rw [if_pos h]; simp [h]
  · rw [if_neg h]
    constructor
    · intro z
      split at z <;> omega
    · intro z; exact absurd z h
/-- the word that stands at p; none where no letter is -/
def zwt (T : Nat → Nat) (tl p : Nat) : List Nat := if ztk T tl p = 1 then (List.range' (zskp T tl p) (znxt T tl p - zskp T tl p)).map T else []
theorem f6_word_loop {a : xT} {T : Nat → Nat} {tl st k : Nat} (ht : ztA a T tl) (h7 : gI a 7 = nI st) (hk : k < 10) (hst : st + (zwd k).length ≤ tl) : ∀ r i fuel, i + r = (zwd k).length → r < fuel → f_X6_isWord_L28 k a fuel (nI i) = some (if (List.range' (st + i) r).map T = (zwd k).drop i then .inl () else .inr ()) := by
  obtain ⟨s1, s2, s3⟩ := zwd_str k hk
  have h120 := ht.2.1
  intro r
  induction r with
  | zero =>
    intro i fuel hi hf
    obtain ⟨fu, rfl⟩ : ∃ fu, fuel = fu + 1 := ⟨fuel - 1, by omega⟩
    rw [f_X6_isWord_L28, s1, if_pos (nI_le (by omega) (by omega)), List.drop_eq_nil_of_le (by omega)]
    rfl
  | succ r ih =>
    intro i fuel hi hf
    obtain ⟨fu, rfl⟩ : ∃ fu, fuel = fu + 1 := ⟨fuel - 1, by omega⟩
    obtain ⟨c1, c2, c3⟩ := zwd_chr k hk i (by omega) (by omega)
    obtain ⟨t1, t2⟩ := ht.2.2 (st + i) (by omega)
    rw [f_X6_isWord_L28, s1, if_neg (nI_ge (by omega) (by omega)), h7, nI_add, if_pos (z_xin (by omega) (by decide)), c1, z_sbind, nI_clamp (by omega), t1, nI_1, ih (i + 1) fu (by omega) (by omega), z_drop (show i < (zwd k).length by omega), List.range'_succ, List.map_cons]
    by_cases c : T (st + i) = (zwd k).getD i 0
    · rw [if_pos (by rw [c])]
      congr 1
      simp only [c, List.cons.injEq, true_and, Nat.add_assoc]
    · rw [if_neg (fun z => c ((nI_eq (by omega) (by omega)).mp z)), if_neg (fun z => c (List.cons.inj z).1)]
theorem f6_isWord {a : xT} {T : Nat → Nat} {tl p k N : Nat} (ht : ztA a T tl) (hz : zatk a T tl p) (hp : p ≤ tl) (hk : k < 10) (hN : 200 ≤ N) : f_X6_isWord N k a = some (bI (decide (zwt T tl p = zwd k))) := by
  obtain ⟨s1, s2, s3⟩ := zwd_str k hk
  have h120 := ht.2.1
  have hr := zskp_rng (T := T) hp
  have hnr := znxt_rng (T := T) hp
  have htk : ztk T tl p ≤ 3 := by
    unfold ztk
    split
    · exact (zkd_rng _).2
    · omega
  unfold f_X6_isWord zwt
  rw [hz.2.1, hz.2.2, hz.1]
  by_cases c : ztk T tl p = 1
  · rw [if_pos (show nI (ztk T tl p) = 1 by rw [c]; rfl), if_pos c, pk_sub hnr.1, s1]
    by_cases c2 : znxt T tl p - zskp T tl p = (zwd k).length
    · have hl := f6_word_loop ht hz.1 hk (by omega) (zwd k).length 0 N (by omega) (by omega)
      rw [show nI 0 = (0 : Int32) from rfl, Nat.add_zero, List.drop_zero] at hl
      rw [if_pos (by rw [c2]), hl, z_sbind, c2]
      by_cases c3 : (List.range' (zskp T tl p) (zwd k).length).map T = zwd k
      · rw [if_pos c3, decide_eq_true c3]; rfl
      · rw [if_neg c3, decide_eq_false c3]; rfl
    · rw [if_neg (fun z => c2 ((nI_eq (by omega) (by omega)).mp z)), decide_eq_false (fun z => c2 (by rw [← z, List.length_map, List.length_range']))]
      rfl
  · rw [if_neg (show ¬ nI (ztk T tl p) = 1 from fun z => c ((nI_eq1 (by omega)).mp z)), if_neg c, decide_eq_false (fun z => by rw [← z] at s2; simp at s2)]
    rfl
/-! the reference's word as a number -/
def zws (v c : Nat) : Nat := if v ≤ 10000000000 then 27 * v + c - 96 else 20000000000
def zwn (l : List Nat) : Nat := l.foldl zws 0
def zwr (r : List Nat) : Nat := r.foldr (fun c v => zws v c) 0
theorem zwn_r (l : List Nat) : zwn l = zwr l.reverse := by
  unfold zwn zwr
  rw [List.foldr_reverse]
theorem zwr_pos {c : Nat} {r : List Nat} (h : zltr c) : 1 ≤ zwr (c :: r) := by
  show 1 ≤ zws (zwr r) c
  unfold zws
  obtain ⟨h1, h2⟩ := h
  split <;> omega
theorem zwr_small : ∀ w : List Nat, (∀ c ∈ w, zltr c) → w.length ≤ 5 → zwr w < 27 ^ w.length
  | [], _, _ => by decide
  | c :: w, h, hl => by
    rw [List.length_cons] at hl
    have ih := zwr_small w (fun x hx => h x (List.mem_cons_of_mem _ hx)) (by omega)
    obtain ⟨h1, h2⟩ := h c List.mem_cons_self
    have hb : 27 ^ w.length ≤ 27 ^ 4 := Nat.pow_le_pow_right (by decide) (by omega)
    show zws (zwr w) c < 27 ^ (w.length + 1)
    unfold zws
    rw [if_pos (by omega), Nat.pow_succ]
    omega
theorem zwr_inj : ∀ (w r : List Nat), (∀ c ∈ w, zltr c) → (∀ c ∈ r, zltr c) → w.length ≤ 5 → zwr r = zwr w → r = w
  | [], [], _, _, _, _ => rfl
  | [], c :: r, _, hr, _, h => by
    have := zwr_pos (r := r) (hr c List.mem_cons_self)
    rw [h] at this
    exact absurd this (by decide)
  | c :: w, [], hw, _, _, h => by
    have := zwr_pos (r := w) (hw c List.mem_cons_self)
    rw [← h] at this
    exact absurd this (by decide)
  | c :: w, x :: r, hw, hr, hl, h => by
    have hsm := zwr_small (c :: w) hw hl
    rw [List.length_cons] at hl
    have hsw := zwr_small w (fun y hy => hw y (List.mem_cons_of_mem _ hy)) (by omega)
    have hb : 27 ^ (c :: w).length ≤ 27 ^ 5 := Nat.pow_le_pow_right (by decide) (by rw [List.length_cons]; omega)
    have hb2 : 27 ^ w.length ≤ 27 ^ 4 := Nat.pow_le_pow_right (by decide) (by omega)
    obtain ⟨c1, c2⟩ := hw c List.mem_cons_self
    obtain ⟨x1, x2⟩ := hr x List.mem_cons_self
    have e1 : zwr (c :: w) = zws (zwr w) c := rfl
    have e2 : zwr (x :: r) = zws (zwr r) x := rfl
    have key : zwr r = zwr w ∧ x = c := by
      rw [e1] at h hsm
      rw [e2] at h
      unfold zws at h hsm
      have hw1 : zwr w ≤ 10000000000 := by omega
      rw [if_pos hw1] at h hsm
      split at h
      · omega
      · omega
    rw [key.2, zwr_inj w r (fun y hy => hw y (List.mem_cons_of_mem _ hy)) (fun y hy => hr y (List.mem_cons_of_mem _ hy)) (by omega) key.1]
theorem zwn_inj {w l : List Nat} (hw : ∀ c ∈ w, zltr c) (hl : ∀ c ∈ l, zltr c) (h5 : w.length ≤ 5) : zwn l = zwn w ↔ l = w := by
  constructor
  · intro h
    rw [zwn_r, zwn_r] at h
    have := zwr_inj w.reverse l.reverse (fun c hc => hw c (List.mem_reverse.mp hc)) (fun c hc => hl c (List.mem_reverse.mp hc)) (by rw [List.length_reverse]; exact h5) h
    have e := congrArg List.reverse this
    rwa [List.reverse_reverse, List.reverse_reverse] at e
  · intro h; rw [h]
def nJ (n : Nat) : Int64 := Int64.ofNat n
theorem nJ_toInt {n : Nat} (h : n < 2 ^ 63) : (nJ n).toInt = n := Int64.toInt_ofNat_of_lt h
theorem nJ_eq {x y : Nat} (hx : x < 2 ^ 63) (hy : y < 2 ^ 63) : nJ x = nJ y ↔ x = y := by
  constructor
  · intro h
    have := congrArg Int64.toInt h
    rw [nJ_toInt hx, nJ_toInt hy] at this
    omega
  · intro h; rw [h]
theorem nI_wide {c : Nat} (h : c < 2 ^ 31) : (nI c).toInt64 = nJ c := Int32.toInt64_ofNat' (by show (c : Int) ≤ 2147483647; omega)
theorem nJ_le {v : Nat} (h : v < 2 ^ 63) : (nJ v ≤ 10000000000) ↔ v ≤ 10000000000 := by
  rw [Int64.le_iff_toInt_le, nJ_toInt h, show (10000000000 : Int64).toInt = 10000000000 from rfl]
  omega
theorem nJ_step {v c : Nat} (h : 96 ≤ c) : (27 * nJ v + nJ c) - 96 = nJ (27 * v + c - 96) := by
  unfold nJ
  rw [Int64.ofNat_sub _ _ (by omega), Int64.ofNat_add, Int64.ofNat_mul]
  rfl
theorem zws_lt {v c : Nat} (hc : c < 256) : zws v c < 2 ^ 40 := by
  unfold zws
  split <;> omega
theorem f8_word_loop {T : Nat → Nat} {tl : Nat} : ∀ r q v b fuel, ztB b T tl → gI b 18 = nI q → gJ b 17 = nJ v → v < 2 ^ 40 → q + r = tl → r < fuel → ∃ b2, f_X8_readWord_L18 fuel b = some b2 ∧ gI b2 18 = nI (zrn T 1 r q) ∧ gJ b2 17 = nJ (((List.range' q (zrn T 1 r q - q)).map T).foldl zws v) ∧ (∀ j, j ≠ 18 → gI b2 j = gI b j) ∧ (∀ c j, gA b2 c j = gA b c j) ∧ ∀ j, j ≠ 17 → gJ b2 j = gJ b j := by
  intro r
  induction r with
  | zero =>
    intro q v b fuel ht h18 h17 hv hq hf
    obtain ⟨fu, rfl⟩ : ∃ fu, fuel = fu + 1 := ⟨fuel - 1, by omega⟩
    have h120 := ht.2.1
    refine ⟨b, ?_, h18, ?_, fun _ _ => rfl, fun _ _ => rfl, fun _ _ => rfl⟩
    · rw [f_X8_readWord_L18, ht.1, h18, if_pos (nI_le (by omega) (by omega))]
    · rw [zrn, Nat.sub_self]; exact h17
  | succ r ih =>
    intro q v b fuel ht h18 h17 hv hq hf
    obtain ⟨fu, rfl⟩ : ∃ fu, fuel = fu + 1 := ⟨fuel - 1, by omega⟩
    have h120 := ht.2.1
    obtain ⟨t1, t2⟩ := ht.2.2 q (by omega)
    have w := f8_in (nI (T q)) 97 122
    rw [show (97 : Int32).toInt64 = 97 from rfl, show (122 : Int32).toInt64 = 122 from rfl] at w
    rw [f_X8_readWord_L18, ht.1, h18, if_neg (nI_ge (by omega) (by omega)), if_pos (z_xin (by omega) (by decide)), if_pos (z_xin (by omega) (by decide)), nI_clamp (by omega), t1, w, z_sbind, zrn, nI_1, h17]
    by_cases c : zkd (T q) = 1
    · have hl := zkd_1.mp c
      have hno : ¬ (nI (T q) < 97 ∨ 122 < nI (T q)) := by
        rintro (z | z)
        · exact nI_nlt (a := T q) (b := 97) hl.1 (by omega) z
        · exact nI_nlt (a := 122) (b := T q) hl.2 (by decide) z
      have hrr := zrn_rng T 1 r (q + 1)
      rw [if_neg hno, if_neg z10, if_pos c, nI_wide (by omega), nJ_step (by omega), show zrn T 1 r (q + 1) - q = (zrn T 1 r (q + 1) - (q + 1)) + 1 by omega, List.range'_succ, List.map_cons, List.foldl_cons]
      have key : ∀ x : Int64, x = nJ (zws v (T q)) → ∃ b2, f_X8_readWord_L18 fu (sI (sJ b 17 x) 18 (nI (q + 1))) = some b2 ∧ gI b2 18 = nI (zrn T 1 r (q + 1)) ∧ gJ b2 17 = nJ (((List.range' (q + 1) (zrn T 1 r (q + 1) - (q + 1))).map T).foldl zws (zws v (T q))) ∧ (∀ j, j ≠ 18 → gI b2 j = gI b j) ∧ (∀ c j, gA b2 c j = gA b c j) ∧ ∀ j, j ≠ 17 → gJ b2 j = gJ b j := by
        intro x hx
        obtain ⟨b2, w1, w2, w3, w4, w5, w6⟩ := ih (q + 1) (zws v (T q)) (sI (sJ b 17 x) 18 (nI (q + 1))) fu ht rfl hx (zws_lt t2) (by omega) (by omega)
        refine ⟨b2, w1, w2, w3, fun j hj => by rw [w4 j hj, gI_sI, if_neg hj]; rfl, w5, fun j hj => ?_⟩
        rw [w6 j hj, gJ_sI, gJ_sJ, if_neg hj]
      by_cases c2 : v ≤ 10000000000
      · rw [if_pos ((nJ_le (by omega)).mpr c2)]
        exact key _ (by unfold zws; rw [if_pos c2])
      · rw [if_neg (fun z => c2 ((nJ_le (by omega)).mp z))]
        exact key _ (by unfold zws; rw [if_neg c2]; rfl)
    · have hyes : nI (T q) < 97 ∨ 122 < nI (T q) := by
        by_cases z : 97 ≤ T q
        · exact Or.inr (nI_lt (a := 122) (Classical.byContradiction fun z2 => c (zkd_1.mpr ⟨z, by omega⟩)) (by omega))
        · exact Or.inl (nI_lt (b := 97) (by omega) (by decide))
      rw [if_pos hyes, if_pos rfl, if_neg c, Nat.sub_self]
      exact ⟨b, rfl, h18, h17, fun _ _ => rfl, fun _ _ => rfl, fun _ _ => rfl⟩
theorem zwt_ltr {T : Nat → Nat} {tl p : Nat} (hp : p ≤ tl) : zwt T tl p = (List.range' (zskp T tl p) (zrn T 1 (tl - zskp T tl p) (zskp T tl p) - zskp T tl p)).map T ∧ (ztk T tl p = 1 → zrn T 1 (tl - zskp T tl p) (zskp T tl p) = znxt T tl p) ∧ (ztk T tl p ≠ 1 → zrn T 1 (tl - zskp T tl p) (zskp T tl p) = zskp T tl p) := by
  have hr := zskp_rng (T := T) hp
  have k1 : ztk T tl p = 1 → zrn T 1 (tl - zskp T tl p) (zskp T tl p) = znxt T tl p := fun h => by
    unfold ztk at h
    by_cases c : zskp T tl p < tl
    · rw [if_pos c] at h
      unfold znxt zren
      rw [if_pos c, h, if_neg (by decide), show tl - zskp T tl p = (tl - (zskp T tl p + 1)) + 1 by omega, zrn, if_pos h]
    · rw [if_neg c] at h; cases h
  have k2 : ztk T tl p ≠ 1 → zrn T 1 (tl - zskp T tl p) (zskp T tl p) = zskp T tl p := fun h => by
    unfold ztk at h
    by_cases c : zskp T tl p < tl
    · rw [if_pos c] at h
      rw [show tl - zskp T tl p = (tl - (zskp T tl p + 1)) + 1 by omega, zrn, if_neg h]
    · rw [show tl - zskp T tl p = 0 by omega]; rfl
  refine ⟨?_, k1, k2⟩
  unfold zwt
  by_cases c : ztk T tl p = 1
  · rw [if_pos c, k1 c]
  · rw [if_neg c, k2 c, Nat.sub_self]; rfl
theorem zrn_all (T : Nat → Nat) (k : Nat) : ∀ r p j, p ≤ j → j < zrn T k r p → zkd (T j) = k
  | 0, p, j, h1, h2 => by rw [zrn] at h2; omega
  | r + 1, p, j, h1, h2 => by
    rw [zrn] at h2
    split at h2
    · rename_i c
      by_cases e : j = p
      · rw [e]; exact c
      · exact zrn_all T k r (p + 1) j (by omega) h2
    · omega
theorem zwt_all {T : Nat → Nat} {tl p : Nat} (hp : p ≤ tl) : ∀ c ∈ zwt T tl p, zltr c := fun c hc => by
  rw [(zwt_ltr hp).1] at hc
  obtain ⟨j, hj, rfl⟩ := List.mem_map.mp hc
  rw [List.mem_range'_1] at hj
  have hr := zrn_rng T 1 (tl - zskp T tl p) (zskp T tl p)
  exact zkd_1.mp (zrn_all T 1 (tl - zskp T tl p) (zskp T tl p) j hj.1 (by omega))
theorem f8_word {b : xT} {T : Nat → Nat} {tl p N : Nat} (ht : ztB b T tl) (h16 : gI b 16 = nI p) (hp : p ≤ tl) (hN : 200 ≤ N) : ∃ b2, f_X8_readWord N b = some b2 ∧ gI b2 16 = nI (zskp T tl p) ∧ gI b2 18 = nI (if ztk T tl p = 1 then znxt T tl p else zskp T tl p) ∧ gJ b2 17 = nJ (zwn (zwt T tl p)) ∧ (∀ j, j ≠ 16 → j ≠ 18 → gI b2 j = gI b j) ∧ (∀ c j, gA b2 c j = gA b c j) ∧ ∀ j, j ≠ 17 → gJ b2 j = gJ b j := by
  have h120 := ht.2.1
  obtain ⟨b1, w1, w2, w3, w4, w5⟩ := f8_here (N := N) ht h16 hp hN
  have hr := zskp_rng (T := T) hp
  have ht1 : ztB b1 T tl := ⟨(w3 14 (by decide)).trans ht.1, h120, fun j hj => by rw [w4]; exact ht.2.2 j hj⟩
  obtain ⟨b2, u1, u2, u3, u4, u5, u6⟩ := f8_word_loop (tl - zskp T tl p) (zskp T tl p) 0 (sI (sJ b1 17 0) 18 (nI (zskp T tl p))) N ht1 rfl rfl (by decide) (by omega) (by omega)
  obtain ⟨z1, z2, z3⟩ := zwt_ltr (T := T) hp
  unfold f_X8_readWord
  rw [w1, z_sbind]
  simp only [w2]
  rw [u1, z_sbind]
  refine ⟨b2, rfl, ?_, ?_, ?_, fun j h1 h2 => ?_, fun c j => (u5 c j).trans (w4 c j), fun j hj => ?_⟩
  · rw [u4 16 (by decide)]; exact w2
  · rw [u2]
    by_cases c : ztk T tl p = 1
    · rw [if_pos c, z2 c]
    · rw [if_neg c, z3 c]
  · rw [u3, ← z1]; rfl
  · rw [u4 j h2, gI_sI, if_neg h2]
    exact w3 j h1
  · rw [u6 j hj, gJ_sI, gJ_sJ, if_neg hj]
    exact w5 j
theorem zwn_lt : ∀ l : List Nat, (∀ c ∈ l, zltr c) → zwn l < 2 ^ 40 := fun l h => by
  rw [zwn_r]
  have hr : ∀ c ∈ l.reverse, zltr c := fun c hc => h c (List.mem_reverse.mp hc)
  generalize l.reverse = r at *
  cases r with
  | nil => decide
  | cons c r =>
    obtain ⟨h1, h2⟩ := hr c List.mem_cons_self
    exact zws_lt (by omega)
theorem zwd_ltr : ∀ k, k < 10 → ∀ c ∈ zwd k, zltr c := by
  intro k hk c hc
  obtain ⟨i, hi⟩ := List.mem_iff_getElem?.mp hc
  have hl : i < (zwd k).length := by
    obtain ⟨h, -⟩ := List.getElem?_eq_some_iff.mp hi
    exact h
  have h5 := (zwd_str k hk).2.2
  have := (zwd_chr k hk i (by omega) hl).2
  have e : (zwd k).getD i 0 = c := by simp [List.getD, hi]
  rw [e] at this
  exact this
/-- the class's word and the reference's number for it say the same -/
theorem z_same {T : Nat → Nat} {tl p k : Nat} {x : Int64} (hp : p ≤ tl) (hk : k < 10) (hx : x = nJ (zwn (zwt T tl p))) : (x = nJ (zwn (zwd k))) ↔ zwt T tl p = zwd k := by
  have h1 := zwn_lt _ (zwt_all (T := T) hp)
  have h2 := zwn_lt _ (zwd_ltr k hk)
  rw [hx, nJ_eq (by omega) (by omega)]
  exact zwn_inj (zwd_ltr k hk) (zwt_all hp) (zwd_str k hk).2.2
theorem zcd_not : f_X8_code 110 111 116 0 0 = some (nJ (zwn (zwd 0))) := by decide +kernel
theorem zcd_sum : f_X8_code 115 117 109 0 0 = some (nJ (zwn (zwd 1))) := by decide +kernel
theorem zcd_pins : f_X8_code 112 105 110 115 0 = some (nJ (zwn (zwd 2))) := by decide +kernel
theorem zcd_has : f_X8_code 104 97 115 0 0 = some (nJ (zwn (zwd 3))) := by decide +kernel
theorem zcd_runs : f_X8_code 114 117 110 115 0 = some (nJ (zwn (zwd 4))) := by decide +kernel
theorem zcd_in : f_X8_code 105 110 0 0 0 = some (nJ (zwn (zwd 5))) := by decide +kernel
theorem zcd_turns : f_X8_code 116 117 114 110 115 = some (nJ (zwn (zwd 6))) := by decide +kernel
theorem zcd_and : f_X8_code 97 110 100 0 0 = some (nJ (zwn (zwd 7))) := by decide +kernel
theorem zcd_or : f_X8_code 111 114 0 0 0 = some (nJ (zwn (zwd 8))) := by decide +kernel
theorem zcd_of : f_X8_code 111 102 0 0 0 = some (nJ (zwn (zwd 9))) := by decide +kernel
