/-! the reference's run of a rule: a pile -/
def zpil (b : xT) : List Bool → Prop
  | [] => True
  | y :: r => gA b 56 r.length = bI y ∧ zpil b r
theorem zpil_keep {b b2 : xT} : ∀ {s : List Bool}, zpil b s → (∀ j, j < s.length → gA b2 56 j = gA b 56 j) → zpil b2 s
  | [], _, _ => trivial
  | y :: r, h, g => ⟨by rw [g r.length (by rw [List.length_cons]; omega)]; exact h.1, zpil_keep h.2 (fun j hj => g j (by rw [List.length_cons]; omega))⟩
theorem zpil_put {b : xT} {s : List Bool} (y : Bool) {v : Int32} (h : zpil b s) (hv : v = bI y) : zpil (sA b 56 (upd (gA b 56) s.length v)) (y :: s) :=
  ⟨by rw [gA_sA, if_pos rfl, upd_at, if_pos rfl, hv], zpil_keep h (fun j hj => by rw [gA_sA, if_pos rfl, upd_at, if_neg (by omega)])⟩
theorem nI_m1 (k : Nat) : nI (k + 1) + (-1) = nI k := by
  rw [← nI_1, Int32.add_assoc, show (1 : Int32) + -1 = 0 by decide, Int32.add_zero]
theorem nI_s1 (k : Nat) : nI (k + 1) - 1 = nI k := pk_sub (a := k + 1) (b := 1) (by omega)
theorem vn_b (x : Bool) : vp_nar .boolean (bI x) = bI x := by cases x <;> decide
def zf56 (b b2 : xT) : Prop := (∀ j, gI b2 j = gI b j) ∧ ∀ c j, c ≠ 56 → gA b2 c j = gA b c j
theorem zf56_refl (b : xT) : zf56 b b := ⟨fun _ => rfl, fun _ _ _ => rfl⟩
theorem zf56_tr {a b c : xT} (h : zf56 a b) (g : zf56 b c) : zf56 a c := ⟨fun j => (g.1 j).trans (h.1 j), fun x j hx => (g.2 x j hx).trans (h.2 x j hx)⟩
theorem zf56_s (b : xT) (f : Nat → Int32) : zf56 b (sA b 56 f) := ⟨fun _ => rfl, fun c j hc => by rw [gA_sA, if_neg hc]⟩
theorem zf56_rs {b b2 : xT} {RS : List (Nat × Nat)} (f : zf56 b b2) (h : zrs b RS) : zrs b2 RS := ⟨(f.1 20).trans h.1, fun i hi => by rw [f.2 53 i (by decide), f.2 54 i (by decide)]; exact h.2 i hi⟩
theorem zf56_B {b b2 : xT} {k : Nat} {l : List Nat} (f : zf56 b b2) (h : zlB b k l) : zlB b2 k l := zlB_keep h (f.2 _ _ (by decide)) (fun i => f.2 _ _ (by decide))
theorem f8_holds_loop {n m N : Nat} {ls : Nat → List Nat} {RS : List (Nat × Nat)} (hn : n ≤ 12) (hm : m < 2 ^ n) (hlen : RS.length ≤ 130) (hv : ∀ i ∈ RS, zvd i) (hN : 200 ≤ N) : ∀ r i s t b fuel, gI b 0 = nI n → (∀ j, j < 6 → zlw n (ls j) ∧ zlB b j (ls j)) → zrs b RS → i + r = RS.length → s.length ≤ 40 → zpil b s → zx (zlf n ls m) (RS.drop i) s = some t → r < fuel → ∃ b2, f_X8_holds_L4 N (nI m) fuel (nI s.length) (nI i) b = some b2 ∧ zpil b2 t ∧ zf56 b b2 := by
  intro r
  induction r with
  | zero =>
    intro i s t b fuel h hls hrs hi hs hp hx hf
    obtain ⟨fu, rfl⟩ : ∃ fu, fuel = fu + 1 := ⟨fuel - 1, by omega⟩
    rw [List.drop_eq_nil_of_le (by omega), zx] at hx
    rw [f_X8_holds_L4, hrs.1, if_pos (nI_le (by omega) (by omega))]
    exact ⟨b, rfl, Option.some.inj hx ▸ hp, zf56_refl b⟩
  | succ r ih =>
    intro i s t b fuel h hls hrs hi hs hp hx hf
    obtain ⟨fu, rfl⟩ : ∃ fu, fuel = fu + 1 := ⟨fuel - 1, by omega⟩
    have hlt : i < RS.length := by omega
    rw [zdropc hlt, zx] at hx
    obtain ⟨c1, c2⟩ := hrs.2 i hlt
    have hvi := hv _ (zgp_mem hlt)
    generalize hq : RS.getD i (0, 0) = q at hx c1 c2 hvi
    obtain ⟨k, x⟩ := q
    dsimp only at hx c1 c2
    obtain ⟨s2, hx1, hx2⟩ := Option.bind_eq_some_iff.mp hx
    have hxi := z_xin (k := i) (n := 130) (by omega) (by decide)
    have go : ∀ (y : Bool) (s' : List Bool) (v : Int32), v = bI y → zpil b s' → s'.length + 1 ≤ 40 → zx (zlf n ls m) (RS.drop (i + 1)) (y :: s') = some t → ∃ b2, f_X8_holds_L4 N (nI m) fu (nI (s'.length + 1)) (nI (i + 1)) (sA b 56 (upd (gA b 56) s'.length v)) = some b2 ∧ zpil b2 t ∧ zf56 b b2 := fun y s' v hvy hp' hl' hx' => by
      have f1 := zf56_s b (upd (gA b 56) s'.length v)
      obtain ⟨b2, e1, e2, e3⟩ := ih (i + 1) (y :: s') t (sA b 56 (upd (gA b 56) s'.length v)) fu h (fun j hj => ⟨(hls j hj).1, zf56_B f1 (hls j hj).2⟩) (zf56_rs f1 hrs) (by omega) (by rw [List.length_cons]; exact hl') (zpil_put y hp' hvy) hx' (by omega)
      rw [List.length_cons] at e1
      exact ⟨b2, e1, e2, zf56_tr f1 e3⟩
    rw [f_X8_holds_L4, hrs.1, if_neg (nI_ge (by omega) (by omega)), if_pos hxi, if_pos hxi, if_pos hxi, if_pos hxi, if_pos hxi]
    simp only [nI_clamp (show i < 2 ^ 31 by omega), c1, nI_1]
    by_cases k0 : k = 0
    · subst k0
      obtain ⟨y, x', r', rfl, rfl⟩ := zs1_or hx1
      rw [List.length_cons, List.length_cons] at hs
      have hx0 := z_xin (k := r'.length) (n := 130) (by omega) (by decide)
      have hx1' := z_xin (k := r'.length + 1) (n := 130) (by omega) (by decide)
      obtain ⟨p1, p2, p3⟩ := hp
      rw [List.length_cons] at p1
      rw [if_neg (show ¬ (2 : Int32) ≤ nI 0 by decide), if_pos (show nI 0 = 0 from rfl), List.length_cons, List.length_cons]
      simp only [nI_m1, nI_s1, if_pos hx0, if_pos hx1', nI_clamp (show r'.length < 2 ^ 31 by omega), nI_clamp (show r'.length + 1 < 2 ^ 31 by omega), p1, p2, vn_0, vn_1]
      have g := go (x' || y) r' (bI (x' || y)) rfl p3 (by omega) hx2
      cases x' <;> cases y <;> exact g
    by_cases k1 : k = 1
    · subst k1
      obtain ⟨y, x', r', rfl, rfl⟩ := zs1_and hx1
      rw [List.length_cons, List.length_cons] at hs
      have hx0 := z_xin (k := r'.length) (n := 130) (by omega) (by decide)
      have hx1' := z_xin (k := r'.length + 1) (n := 130) (by omega) (by decide)
      obtain ⟨p1, p2, p3⟩ := hp
      rw [List.length_cons] at p1
      rw [if_neg (show ¬ (2 : Int32) ≤ nI 1 by decide), if_neg (show ¬ nI 1 = 0 by decide), List.length_cons, List.length_cons]
      simp only [nI_m1, nI_s1, if_pos hx0, if_pos hx1', nI_clamp (show r'.length < 2 ^ 31 by omega), nI_clamp (show r'.length + 1 < 2 ^ 31 by omega), p1, p2, vn_0, vn_1]
      have g := go (x' && y) r' (bI (x' && y)) rfl p3 (by omega) hx2
      cases x' <;> cases y <;> exact g
    by_cases k2 : k = 2
    · subst k2
      obtain ⟨y, r', rfl, rfl⟩ := zs1_not hx1
      rw [List.length_cons] at hs
      have hx0 := z_xin (k := r'.length) (n := 130) (by omega) (by decide)
      obtain ⟨p2, p3⟩ := hp
      rw [if_pos (show (2 : Int32) ≤ nI 2 by decide), if_pos (show nI 2 = 2 from rfl), List.length_cons]
      simp only [nI_s1, if_pos hx0, nI_clamp (show r'.length < 2 ^ 31 by omega), p2, vn_0, vn_1]
      have g := go (!y) r' (bI (!y)) rfl p3 (by omega) hx2
      cases y <;> exact g
    have hk : 3 ≤ k := by omega
    have hk9 : k < 100 := by
      rcases hvi with z | ⟨z, _⟩ | ⟨z, _⟩ | ⟨z, _⟩ | ⟨z, _⟩ | z | ⟨z, _⟩ <;> dsimp only at z <;> omega
    obtain ⟨hl, rfl⟩ := zs1_leaf hk hx1
    rw [if_pos (show (2 : Int32) ≤ nI k from nI_le (a := 2) (by omega) (by omega)), if_neg (fun z => by rw [show (2 : Int32) = nI 2 from rfl, nI_eq (by omega) (by omega)] at z; omega), f8_isSo h hn hls hm hvi hk c2 hN, z_sbind, if_pos (z_xin (by omega) (by decide)), vn_b, nI_clamp (by omega)]
    exact go _ s _ rfl hp (by omega) hx2
theorem f8_holds {b : xT} {n m N : Nat} {ls : Nat → List Nat} {RS : List (Nat × Nat)} {w : Bool} (h : gI b 0 = nI n) (hn : n ≤ 12) (hls : ∀ j, j < 6 → zlw n (ls j) ∧ zlB b j (ls j)) (hm : m < 2 ^ n) (hrs : zrs b RS) (hlen : RS.length ≤ 130) (hv : ∀ i ∈ RS, zvd i) (hx : zx (zlf n ls m) RS [] = some [w]) (hN : 200 ≤ N) : ∃ b2, f_X8_holds N (nI m) b = some (bI w, b2) ∧ zf56 b b2 := by
  obtain ⟨b2, e1, e2, e3⟩ := f8_holds_loop (N := N) hn hm hlen hv hN RS.length 0 [] [w] b N h hls hrs (by omega) (by decide) trivial hx (by omega)
  unfold f_X8_holds
  have e1' : f_X8_holds_L4 N (nI m) N 0 0 b = some b2 := e1
  have e2' : gA b2 56 (Int32.toNatClampNeg 0) = bI w := e2.1
  rw [e1', z_sbind, if_pos (by decide), e2', if_pos (bI_g w)]
  exact ⟨b2, rfl, e3⟩
