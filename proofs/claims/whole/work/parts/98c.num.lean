/-! signs and numbers -/
theorem zkd_2 {c : Nat} : zkd c = 2 ↔ 48 ≤ c ∧ c ≤ 57 := by
  unfold zkd
  constructor
  · intro h
    split at h
    · omega
    · split at h
      · assumption
      · omega
  · intro h
    rw [if_neg (by omega), if_pos h]
theorem f6_isSign {a : xT} {T : Nat → Nat} {tl p c : Nat} (ht : ztA a T tl) (hz : zatk a T tl p) (hp : p ≤ tl) (hc : c = 40 ∨ c = 41) : f_X6_isSign (nI c) a = some (bI (decide (zskp T tl p < tl ∧ T (zskp T tl p) = c))) := by
  have h120 := ht.2.1
  have hr := zskp_rng (T := T) hp
  have hkc : zkd c = 3 := by rcases hc with rfl | rfl <;> decide
  unfold f_X6_isSign
  rw [hz.2.1, hz.1, ht.1]
  by_cases c1 : zskp T tl p < tl
  · obtain ⟨t1, t2⟩ := ht.2.2 _ c1
    have hkr := zkd_rng (T (zskp T tl p))
    have htk : ztk T tl p = zkd (T (zskp T tl p)) := if_pos c1
    rw [htk]
    by_cases c2 : T (zskp T tl p) = c
    · rw [c2, hkc, if_pos (show nI 3 = (3 : Int32) from rfl), if_neg (nI_ge c1 (by omega)), if_pos (z_xin (by omega) (by decide)), nI_clamp (by omega), t1, c2, if_pos rfl, decide_eq_true ⟨c1, rfl⟩]
      rfl
    · rw [decide_eq_false (fun z => c2 z.2)]
      by_cases c3 : zkd (T (zskp T tl p)) = 3
      · rw [if_pos (by rw [c3]; rfl), if_neg (nI_ge c1 (by omega)), if_pos (z_xin (by omega) (by decide)), nI_clamp (by omega), t1, if_neg (fun z => c2 ((nI_eq (by omega) (by omega)).mp z))]
        rfl
      · rw [if_neg (fun z => c3 ((nI_eq3 (by omega)).mp z))]
        rfl
  · have htk : ztk T tl p = 0 := if_neg c1
    rw [htk, if_neg (by decide), decide_eq_false (fun z => c1 z.1)]
    rfl
def zns (v c : Nat) : Nat := if v ≤ 10000 then 10 * v + c - 48 else v
def znv (T : Nat → Nat) (q r : Nat) : Nat := ((List.range' q r).map T).foldl zns 0
theorem f6_num_loop {a : xT} {T : Nat → Nat} {tl nx : Nat} (ht : ztA a T tl) (h8 : gI a 8 = nI nx) (hnx : nx ≤ tl) : ∀ r q v fuel, q + r = nx → r ≤ 2 → v < 10 ^ (2 - r) → (∀ j, q ≤ j → j < nx → zkd (T j) = 2) → r < fuel → f_X6_number_L30 a fuel (nI v) (nI q) = some (nI (((List.range' q r).map T).foldl zns v)) := by
  have h120 := ht.2.1
  intro r
  induction r with
  | zero =>
    intro q v fuel hq hr hv hd hf
    obtain ⟨fu, rfl⟩ : ∃ fu, fuel = fu + 1 := ⟨fuel - 1, by omega⟩
    rw [f_X6_number_L30, h8, if_pos (nI_le (by omega) (by omega))]
    rfl
  | succ r ih =>
    intro q v fuel hq hr hv hd hf
    obtain ⟨fu, rfl⟩ : ∃ fu, fuel = fu + 1 := ⟨fuel - 1, by omega⟩
    obtain ⟨t1, t2⟩ := ht.2.2 q (by omega)
    have hdg := zkd_2.mp (hd q (Nat.le_refl _) (by omega))
    have hv9 : v ≤ 9 ∧ (r = 1 → v = 0) := by
      rcases (show r = 0 ∨ r = 1 by omega) with rfl | rfl
      · have : v < 10 := hv
        exact ⟨by omega, by omega⟩
      · have : v < 1 := hv
        exact ⟨by omega, fun _ => by omega⟩
    have e : (10 * nI v + nI (T q)) - 48 = nI (10 * v + T q - 48) := by
      rw [show (10 : Int32) = nI 10 from rfl, pk_mul, nI_add, show (48 : Int32) = nI 48 from rfl, pk_sub (by omega)]
    have hz : zns v (T q) = 10 * v + T q - 48 := by unfold zns; rw [if_pos (by omega)]
    rw [f_X6_number_L30, h8, if_neg (nI_ge (by omega) (by omega)), if_pos (z_xin (by omega) (by decide)), nI_clamp (by omega), t1, e, z_sbind, nI_1, List.range'_succ, List.map_cons, List.foldl_cons, hz]
    refine ih (q + 1) _ fu (by omega) (by omega) ?_ (fun j h1 h2 => hd j (by omega) h2) (by omega)
    rcases (show r = 0 ∨ r = 1 by omega) with rfl | rfl
    · show 10 * v + T q - 48 < 100
      omega
    · have := hv9.2 rfl
      show 10 * v + T q - 48 < 10
      omega
theorem f8_num_loop {T : Nat → Nat} {tl : Nat} (v1 v2 v4 : Int32) : ∀ r q v b fuel, ztB b T tl → gI b 16 = nI q → gI b 19 = nI v → v < 2 ^ 20 → q + r = tl → r < fuel → ∃ b2, f_X8_readNumber_L40 v1 v2 v4 fuel b = some b2 ∧ gI b2 16 = nI (zrn T 2 r q) ∧ gI b2 19 = nI (((List.range' q (zrn T 2 r q - q)).map T).foldl zns v) ∧ ((List.range' q (zrn T 2 r q - q)).map T).foldl zns v < 2 ^ 20 ∧ (∀ j, j ≠ 16 → j ≠ 19 → gI b2 j = gI b j) ∧ (∀ c j, gA b2 c j = gA b c j) ∧ ∀ j, gJ b2 j = gJ b j := by
  intro r
  induction r with
  | zero =>
    intro q v b fuel ht h16 h19 hv hq hf
    obtain ⟨fu, rfl⟩ : ∃ fu, fuel = fu + 1 := ⟨fuel - 1, by omega⟩
    have h120 := ht.2.1
    refine ⟨b, ?_, h16, ?_, ?_, fun _ _ _ => rfl, fun _ _ => rfl, fun _ => rfl⟩
    · rw [f_X8_readNumber_L40, ht.1, h16, if_pos (nI_le (by omega) (by omega))]
    · rw [zrn, Nat.sub_self]; exact h19
    · rw [zrn, Nat.sub_self]; exact hv
  | succ r ih =>
    intro q v b fuel ht h16 h19 hv hq hf
    obtain ⟨fu, rfl⟩ : ∃ fu, fuel = fu + 1 := ⟨fuel - 1, by omega⟩
    have h120 := ht.2.1
    obtain ⟨t1, t2⟩ := ht.2.2 q (by omega)
    have w := f8_in (nI (T q)) 48 57
    rw [show (48 : Int32).toInt64 = 48 from rfl, show (57 : Int32).toInt64 = 57 from rfl] at w
    rw [f_X8_readNumber_L40, ht.1, h16, if_neg (nI_ge (by omega) (by omega)), if_pos (z_xin (by omega) (by decide)), if_pos (z_xin (by omega) (by decide)), nI_clamp (by omega), t1, w, z_sbind, zrn, nI_1, h19]
    by_cases c : zkd (T q) = 2
    · have hl := zkd_2.mp c
      have hno : ¬ (nI (T q) < 48 ∨ 57 < nI (T q)) := by
        rintro (z | z)
        · exact nI_nlt (a := T q) (b := 48) hl.1 (by omega) z
        · exact nI_nlt (a := 57) (b := T q) hl.2 (by decide) z
      have hrr := zrn_rng T 2 r (q + 1)
      have e : (10 * nI v + nI (T q)) - 48 = nI (10 * v + T q - 48) := by
        rw [show (10 : Int32) = nI 10 from rfl, pk_mul, nI_add, show (48 : Int32) = nI 48 from rfl, pk_sub (by omega)]
      rw [if_neg hno, if_neg z10, if_pos c, e, show zrn T 2 r (q + 1) - q = (zrn T 2 r (q + 1) - (q + 1)) + 1 by omega, List.range'_succ, List.map_cons, List.foldl_cons]
      have key : ∀ x : Int32, x = nI (zns v (T q)) → ∃ b2, f_X8_readNumber_L40 v1 v2 v4 fu (sI (sI b 19 x) 16 (nI (q + 1))) = some b2 ∧ gI b2 16 = nI (zrn T 2 r (q + 1)) ∧ gI b2 19 = nI (((List.range' (q + 1) (zrn T 2 r (q + 1) - (q + 1))).map T).foldl zns (zns v (T q))) ∧ ((List.range' (q + 1) (zrn T 2 r (q + 1) - (q + 1))).map T).foldl zns (zns v (T q)) < 2 ^ 20 ∧ (∀ j, j ≠ 16 → j ≠ 19 → gI b2 j = gI b j) ∧ (∀ c j, gA b2 c j = gA b c j) ∧ ∀ j, gJ b2 j = gJ b j := by
        intro x hx
        obtain ⟨b2, w1, w2, w3, w4, w5, w6, w7⟩ := ih (q + 1) (zns v (T q)) (sI (sI b 19 x) 16 (nI (q + 1))) fu ht rfl hx (by unfold zns; split <;> omega) (by omega) (by omega)
        refine ⟨b2, w1, w2, w3, w4, fun j h1 h2 => ?_, w6, w7⟩
        rw [w5 j h1 h2, gI_sI, if_neg h1, gI_sI, if_neg h2]
      by_cases c2 : v ≤ 10000
      · rw [if_pos (show nI v ≤ (10000 : Int32) from nI_le (b := 10000) c2 (by decide))]
        exact key _ (by unfold zns; rw [if_pos c2])
      · rw [if_neg (show ¬ nI v ≤ (10000 : Int32) from nI_ge (a := 10000) (by omega) (by omega))]
        exact key _ (by unfold zns; rw [if_neg c2])
    · have hyes : nI (T q) < 48 ∨ 57 < nI (T q) := by
        by_cases z : 48 ≤ T q
        · exact Or.inr (nI_lt (a := 57) (Classical.byContradiction fun z2 => c (zkd_2.mpr ⟨z, by omega⟩)) (by omega))
        · exact Or.inl (nI_lt (b := 48) (by omega) (by decide))
      rw [if_pos hyes, if_pos rfl, if_neg c, Nat.sub_self]
      exact ⟨b, rfl, h16, h19, hv, fun _ _ _ => rfl, fun _ _ => rfl, fun _ => rfl⟩
/-! what parsing leaves as it was -/
def zfp (a a2 : xT) : Prop := (∀ j, (j < 6 ∨ 13 < j) → gI a2 j = gI a j) ∧ (∀ c j, (c < 9 ∨ 14 < c) → gA a2 c j = gA a c j) ∧ ∀ c j, gB a2 c j = gB a c j
def zfq (b b2 : xT) : Prop := (∀ j, (j < 15 ∨ 26 < j) → gI b2 j = gI b j) ∧ ∀ c j, (c < 53 ∨ 56 < c) → gA b2 c j = gA b c j
theorem zfp_refl (a : xT) : zfp a a := ⟨fun _ _ => rfl, fun _ _ _ => rfl, fun _ _ => rfl⟩
theorem zfq_refl (a : xT) : zfq a a := ⟨fun _ _ => rfl, fun _ _ _ => rfl⟩
theorem zfp_tr {a b c : xT} (h : zfp a b) (g : zfp b c) : zfp a c := ⟨fun j hj => (g.1 j hj).trans (h.1 j hj), fun x j hx => (g.2.1 x j hx).trans (h.2.1 x j hx), fun x j => (g.2.2 x j).trans (h.2.2 x j)⟩
theorem zfq_tr {a b c : xT} (h : zfq a b) (g : zfq b c) : zfq a c := ⟨fun j hj => (g.1 j hj).trans (h.1 j hj), fun x j hx => (g.2 x j hx).trans (h.2 x j hx)⟩
theorem zfp_A {a a2 : xT} {T : Nat → Nat} {tl : Nat} (h : ztA a T tl) (f : zfp a a2) : ztA a2 T tl := ⟨(f.1 5 (by decide)).trans h.1, h.2.1, fun j hj => by rw [f.2.1 7 j (by decide)]; exact h.2.2 j hj⟩
theorem zfq_B {b b2 : xT} {T : Nat → Nat} {tl : Nat} (h : ztB b T tl) (f : zfq b b2) : ztB b2 T tl := ⟨(f.1 14 (by decide)).trans h.1, h.2.1, fun j hj => by rw [f.2 52 j (by decide)]; exact h.2.2 j hj⟩
theorem zfp_x {a a2 : xT} (h : zfx a a2) : zfp a a2 := ⟨fun j hj => h.1 j (by omega) (by omega) (by omega), fun c j _ => h.2.1 c j, h.2.2⟩
/-- a number, on both sides -/
theorem z_num {a b : xT} {T : Nat → Nat} {tl p lo hi N : Nat} (hA : ztA a T tl) (hB : ztB b T tl) (hz : zatk a T tl p) (h16 : gI b 16 = nI p) (hp : p ≤ tl) (hlo : lo ≤ 200) (hhi : hi ≤ 200) (hN : 200 ≤ N) : (∃ v a2 b2 q, f_X5_takeNumber N (nI lo) (nI hi) a = some (nI v, a2) ∧ f_X8_readNumber N (nI lo) (nI hi) b = some (0, b2) ∧ lo ≤ v ∧ v ≤ hi ∧ p < q ∧ q ≤ tl ∧ zatk a2 T tl q ∧ gI b2 16 = nI q ∧ gI b2 19 = nI v ∧ zfx a a2 ∧ (∀ j, j ≠ 16 → j ≠ 19 → gI b2 j = gI b j) ∧ (∀ c j, gA b2 c j = gA b c j)) ∨ ∃ k b2, (k = 1 ∨ k = 2) ∧ f_X5_takeNumber N (nI lo) (nI hi) a = (f_X5_blame (nI k) a).bind (fun q => some (nI lo, q)) ∧ f_X8_readNumber N (nI lo) (nI hi) b = some (nI k, b2) ∧ gI b2 15 = nI (zskp T tl p) ∧ (∀ j, j ≠ 15 → j ≠ 16 → j ≠ 19 → gI b2 j = gI b j) ∧ ∀ c j, gA b2 c j = gA b c j := by
  have h120 := hA.2.1
  have hr := zskp_rng (T := T) hp
  have hnr := znxt_rng (T := T) hp
  obtain ⟨b1, e1, e2, e3, e4, e5⟩ := f8_here (N := N) hB h16 hp hN
  have hB1 : ztB b1 T tl := ⟨(e3 14 (by decide)).trans hB.1, h120, fun j hj => by rw [e4]; exact hB.2.2 j hj⟩
  have htk : ztk T tl p ≤ 3 := by
    unfold ztk
    split
    · exact (zkd_rng _).2
    · omega
  unfold f_X5_takeNumber f_X8_readNumber f_X8_fails
  rw [e1, z_sbind]
  simp only [e2]
  by_cases c : ztk T tl p = 2
  · have c1 : zskp T tl p < tl := Classical.byContradiction fun z => by unfold ztk at c; rw [if_neg z] at c; cases c
    have ck : zkd (T (zskp T tl p)) = 2 := by unfold ztk at c; rwa [if_pos c1] at c
    have hl := zkd_2.mp ck
    obtain ⟨t1, t2⟩ := hA.2.2 _ c1
    have hno : ¬ (nI (T (zskp T tl p)) < 48 ∨ 57 < nI (T (zskp T tl p))) := by
      rintro (z | z)
      · exact nI_nlt (a := T (zskp T tl p)) (b := 48) hl.1 (by omega) z
      · exact nI_nlt (a := 57) (b := T (zskp T tl p)) hl.2 (by decide) z
    have w := f8_in (nI (T (zskp T tl p))) 48 57
    rw [show (48 : Int32).toInt64 = 48 from rfl, show (57 : Int32).toInt64 = 57 from rfl] at w
    have hnx : zrn T 2 (tl - zskp T tl p) (zskp T tl p) = znxt T tl p := by
      unfold znxt zren
      rw [if_pos c1, ck, if_neg (by decide), show tl - zskp T tl p = (tl - (zskp T tl p + 1)) + 1 by omega, zrn, if_pos ck]
    obtain ⟨b2, u1, u2, u3, u4, u5, u6, u7⟩ := f8_num_loop (T := T) (tl := tl) (nI lo) (nI hi) (nI (zskp T tl p)) (tl - zskp T tl p) (zskp T tl p) 0 (sI b1 19 0) N hB1 e2 rfl (by decide) (by omega) (by omega)
    rw [hnx] at u2 u3 u4
    have hu5 : ∀ j, j ≠ 16 → j ≠ 19 → gI b2 j = gI b j := fun j h1 h2 => by rw [u5 j h1 h2, gI_sI, if_neg h2, e3 j h1]
    rw [hz.2.1, if_pos (show nI (ztk T tl p) = 2 by rw [c]; rfl), if_pos c1, w, z_sbind, if_neg hno, if_neg z10, u1, z_sbind, u2, u3, pk_sub hnr.1]
    unfold f_X6_number
    rw [hz.2.1, if_pos (show nI (ztk T tl p) = 2 by rw [c]; rfl), hz.2.2, hz.1, pk_sub hnr.1]
    by_cases c2 : znxt T tl p - zskp T tl p ≤ 2
    · have hall : ∀ j, zskp T tl p ≤ j → j < znxt T tl p → zkd (T j) = 2 := fun j h1 h2 => zrn_all T 2 (tl - zskp T tl p) (zskp T tl p) j h1 (by rw [hnx]; exact h2)
      have hnl := f6_num_loop (a := a) hA hz.2.2 hnr.2.1 (znxt T tl p - zskp T tl p) (zskp T tl p) 0 N (by omega) c2 (Nat.pow_pos (by decide)) hall (by omega)
      rw [show nI 0 = (0 : Int32) from rfl] at hnl
      have hw := f8_in (nI (((List.range' (zskp T tl p) (znxt T tl p - zskp T tl p)).map T).foldl zns 0)) (nI lo) (nI hi)
      rw [if_pos (show nI (znxt T tl p - zskp T tl p) ≤ (2 : Int32) from nI_le (b := 2) c2 (by decide)), hnl, z_sbind, z_sbind, if_neg (show ¬ (2 : Int32) < nI (znxt T tl p - zskp T tl p) from fun z => by rw [show (2 : Int32) = nI 2 from rfl, nI_ltI (by decide) (by omega)] at z; omega), hw, z_sbind]
      generalize ((List.range' (zskp T tl p) (znxt T tl p - zskp T tl p)).map T).foldl zns 0 = v at *
      by_cases c3 : v < lo
      · right
        refine ⟨2, sI b2 15 (nI (zskp T tl p)), Or.inr rfl, ?_, ?_, rfl, fun j h1 h2 h3 => ?_, fun c j => by show gA b2 c j = _; rw [u6]; exact e4 c j⟩
        · rw [if_pos (nI_ltI (by omega) (by omega) |>.mpr c3)]; rfl
        · rw [if_pos (Or.inl (nI_ltI (by omega) (by omega) |>.mpr c3)), if_pos rfl]; rfl
        · rw [gI_sI, if_neg h1, hu5 j h2 h3]
      · by_cases c4 : v ≤ hi
        · left
          obtain ⟨a2, x1, x2, x3⟩ := f6_adv (N := N) hA hz.2.2 hnr.2.1 hN
          refine ⟨v, a2, b2, znxt T tl p, ?_, ?_, by omega, c4, by have := hnr.2.2 c1; omega, hnr.2.1, x2, u2, u3, x3, hu5, fun c j => by rw [u6]; exact e4 c j⟩
          · rw [if_neg (nI_nlt (by omega) (by omega)), if_pos (nI_le c4 (by omega)), x1]; rfl
          · have cc : ¬ (nI v < nI lo ∨ nI hi < nI v) := fun z => z.elim (nI_nlt (by omega) (by omega)) (nI_nlt c4 (by omega))
            rw [if_neg cc, if_neg z10]
        · right
          refine ⟨2, sI b2 15 (nI (zskp T tl p)), Or.inr rfl, ?_, ?_, rfl, fun j h1 h2 h3 => ?_, fun c j => by show gA b2 c j = _; rw [u6]; exact e4 c j⟩
          · rw [if_neg (nI_nlt (by omega) (by omega)), if_neg (nI_ge (by omega) (by omega))]; rfl
          · rw [if_pos (Or.inr (nI_lt (by omega) (by omega))), if_pos rfl]; rfl
          · rw [gI_sI, if_neg h1, hu5 j h2 h3]
    · right
      refine ⟨2, sI b2 15 (nI (zskp T tl p)), Or.inr rfl, ?_, ?_, rfl, fun j h1 h2 h3 => ?_, fun c j => by show gA b2 c j = _; rw [u6]; exact e4 c j⟩
      · rw [if_neg (show ¬ nI (znxt T tl p - zskp T tl p) ≤ (2 : Int32) from nI_ge (a := 2) (by omega) (by omega)), z_sbind, if_pos (Int32.lt_iff_toInt_lt.mpr (by rw [nI_toInt (by omega)]; show (-1 : Int) < _; omega))]; rfl
      · rw [if_pos (show (2 : Int32) < nI (znxt T tl p - zskp T tl p) from nI_lt (a := 2) (by omega) (by omega))]; rfl
      · rw [gI_sI, if_neg h1, hu5 j h2 h3]
  · right
    refine ⟨1, sI b1 15 (nI (zskp T tl p)), Or.inl rfl, ?_, ?_, rfl, fun j h1 h2 _ => ?_, e4⟩
    · rw [hz.2.1, if_neg (show ¬ nI (ztk T tl p) = 2 from fun z => c ((nI_eq (b := 2) (by omega) (by decide)).mp z))]; rfl
    · by_cases c1 : zskp T tl p < tl
      · rw [if_pos c1]
        obtain ⟨t1, t2⟩ := hA.2.2 _ c1
        have ck : ¬ zkd (T (zskp T tl p)) = 2 := fun z => c (by unfold ztk; rw [if_pos c1]; exact z)
        have w := f8_in (nI (T (zskp T tl p))) 48 57
        rw [show (48 : Int32).toInt64 = 48 from rfl, show (57 : Int32).toInt64 = 57 from rfl] at w
        have hyes : nI (T (zskp T tl p)) < 48 ∨ 57 < nI (T (zskp T tl p)) := by
          by_cases z : 48 ≤ T (zskp T tl p)
          · exact Or.inr (nI_lt (a := 57) (Classical.byContradiction fun z2 => ck (zkd_2.mpr ⟨z, by omega⟩)) (by omega))
          · exact Or.inl (nI_lt (b := 48) (by omega) (by decide))
        rw [w, z_sbind, if_pos hyes, if_pos rfl]; rfl
      · rw [if_neg c1, show f_X8_in (Int32.toInt64 (-1)) 48 57 = some 0 from by decide +kernel, z_sbind, if_pos rfl]; rfl
    · rw [gI_sI, if_neg h1, e3 j h2]
