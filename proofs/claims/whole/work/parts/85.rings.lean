/-! rings: what is offered, what the reference finds -/
theorem f7_rings_loop {k s n kd t d tg : Nat} {l : List Nat} (wo : Int32) (hb : zbd n kd t d) (hl : l.length ≤ 64) : ∀ r i F a fuel, zis a n kd t d → zlA a k l → zpt a F (fun x => zag n (l.getD x 0) s) tg → F.length ≤ i → i + r = l.length → r < fuel → ∃ a2, f_X7_offerRings_L25 (nI s) wo k fuel (nI i) a = some a2 ∧ zpt a2 (F ++ (List.range' i r).filter (fun x => decide (nI x ≠ wo))) (fun x => zag n (l.getD x 0) s) tg ∧ zcv6 a a2 := by
  intro r
  induction r with
  | zero =>
    intro i F a fuel ha hA hp hFi hi hf
    obtain ⟨fu, rfl⟩ : ∃ fu, fuel = fu + 1 := ⟨fuel - 1, by omega⟩
    refine ⟨a, ?_, by simpa using hp, zcv6_refl a⟩
    rw [f_X7_offerRings_L25, hA.1, if_pos (nI_le (by omega) (by omega))]
  | succ r ih =>
    intro i F a fuel ha hA hp hFi hi hf
    obtain ⟨fu, rfl⟩ : ∃ fu, fuel = fu + 1 := ⟨fuel - 1, by omega⟩
    have hil : i < l.length := by omega
    have hx := z_xin (k := i) (n := 64) (by omega) (by decide)
    rw [f_X7_offerRings_L25, hA.1, if_neg (nI_ge (by omega) (by omega)), if_pos hx, nI_clamp (by omega), hA.2.1 i hil, f1_agree ha.1 hb.2.1, z_sbind, nI_1, List.range'_succ, List.filter_cons]
    by_cases c : nI i = wo
    · rw [if_pos c, if_neg (by simp [c])]
      exact ih (i + 1) _ a fu ha hA hp (by omega) (by omega) (by omega)
    · rw [if_neg c, if_pos (by simp [c])]
      obtain ⟨a2, e, h1, h2⟩ := f0_offer (i := i) hp (by omega)
      rw [e, z_sbind]
      have f2 := zcv6_of h2
      obtain ⟨a3, e3, h3, h4⟩ := ih (i + 1) _ a2 fu (zcv6_is f2 ha) (zcv6_A f2 hA) h1 (by rw [List.length_append, List.length_singleton]; omega) (by omega) (by omega)
      refine ⟨a3, e3, ?_, zcv6_tr f2 h4⟩
      rw [List.append_cons]
      exact h3
theorem f7_offer {k s n kd t d N : Nat} {a : xT} {l : List Nat} (wo : Int32) (hb : zbd n kd t d) (hk : k < 6) (hl : l.length ≤ 64) (ha : zis a n kd t d) (hA : zlA a k l) (hN : 5000 ≤ N) : ∃ a2, f_X7_offerRings N (nI k) (nI s) wo a = some a2 ∧ zpt a2 ((List.range' 0 l.length).filter (fun x => decide (nI x ≠ wo))) (fun x => zag n (l.getD x 0) s) (2 ^ n - 1) ∧ zcv6 a a2 := by
  obtain ⟨st1, st2⟩ := zpt_start a (fun x => zag n (l.getD x 0) s) (2 ^ n - 1)
  obtain ⟨a2, u0, u1, u2⟩ := f7_rings_loop wo hb hl l.length 0 [] _ N (zcv6_is st2 ha) (zcv6_A st2 hA) st1 (by simp) (by omega) (by omega)
  rw [List.nil_append] at u1
  rw [show nI 0 = (0 : Int32) from rfl] at u0
  unfold f_X7_offerRings f_X0_start
  rw [if_pos (z_xin hk (by decide)), f1_all ha.1 hb.2.1, z_sbind, z_sbind, nI_clamp (by omega), u0, z_sbind]
  exact ⟨a2, rfl, u1, zcv6_tr st2 u2⟩
theorem zall_ne {len : Nat} (hl : len ≤ 64) : (List.range' 0 len).filter (fun x => decide (nI x ≠ -1)) = List.range' 0 len := by
  rw [List.filter_eq_self]
  intro x hx
  rw [List.mem_range'_1] at hx
  exact decide_eq_true (nI_nneg (by omega))
theorem f7_findRings {k s n kd t d h N : Nat} {a : xT} {l : List Nat} (hb : zbd n kd t d) (hk : k < 6) (hl : l.length ≤ 64) (hh : h ≤ 3) (ha : zis a n kd t d) (hA : zlA a k l) (hN : 5000 ≤ N) : ∃ a2, f_X7_findRings N (nI k) (nI s) (nI h) a = some a2 ∧ zcov a2 ((zka (List.range' 0 l.length) h).filter (zok (fun x => zag n (l.getD x 0) s) (2 ^ n - 1))) ∧ zcv6 a a2 := by
  have hn := hb.2.1
  have hp := z_pow n (by omega)
  obtain ⟨a2, u0, u1, u2⟩ := f7_offer (s := s) (-1) hb hk hl ha hA hN
  rw [zall_ne hl] at u1
  obtain ⟨a3, v0, v1, v2⟩ := f0_search (N := N) (h := h) (by rw [List.length_range']; exact hl) (fun x _ => by have := zag_lt n (l.getD x 0) s; show zag n (l.getD x 0) s < 4096; omega) (show 2 ^ n - 1 < 4096 by omega) hh hN u1
  unfold f_X7_findRings
  rw [u0, z_sbind, v0, z_sbind]
  exact ⟨a3, rfl, v1, zcv6_tr u2 (zcv6_cv v2)⟩
/-! what a ring's marks have in common -/
def zan (g : Nat → Nat) : List Nat → Nat
  | [] => 0
  | x :: c => c.foldl (fun acc y => acc &&& g y) (g x)
theorem z_m1and (m : Nat) : (-1 : Int32) &&& nI m = nI m := by
  apply Int32.toBitVec_inj.mp
  rw [Int32.toBitVec_and]
  apply BitVec.eq_of_getLsbD_eq
  intro i hi
  have h1 : ((-1 : Int32).toBitVec).getLsbD i = true := by
    have : (-1 : Int32).toBitVec = BitVec.allOnes 32 := by decide
    rw [this, BitVec.getLsbD_allOnes]; exact decide_eq_true hi
  rw [BitVec.getLsbD_and, h1, Bool.true_and]
theorem f8_com_loop {b : xT} {k : Nat} {l c : List Nat} (hk : k < 6) (hB : zlB b k l) (hl : l.length ≤ 64) (h31 : gI b 31 = nI c.length) (hc : ∀ t, t < c.length → gA b 59 t = nI (c.getD t 0)) (hm : ∀ x ∈ c, x < l.length) (hc3 : c.length ≤ 3) : ∀ r t acc fuel, t + r = c.length → r < fuel → f_X8_common_L4 (nI k) b fuel (nI acc) (nI t) = some (nI ((c.drop t).foldl (fun acc x => acc &&& l.getD x 0) acc)) := by
  intro r
  induction r with
  | zero =>
    intro t acc fuel ht hf
    obtain ⟨fu, rfl⟩ : ∃ fu, fuel = fu + 1 := ⟨fuel - 1, by omega⟩
    rw [f_X8_common_L4, h31, if_pos (nI_le (by omega) (by omega)), List.drop_eq_nil_of_le (by omega)]; rfl
  | succ r ih =>
    intro t acc fuel ht hf
    obtain ⟨fu, rfl⟩ : ∃ fu, fuel = fu + 1 := ⟨fuel - 1, by omega⟩
    have htl : t < c.length := by omega
    rw [f_X8_common_L4, h31, if_neg (nI_ge (by omega) (by omega)), if_pos (z_xin (by omega) (by decide)), nI_clamp (by omega), hc t htl, f8_at hB hk (hm _ (z_get htl)) hl, z_sbind, zI_and, nI_1, ih (t + 1) _ fu (by omega) (by omega), z_drop htl]
    rfl
theorem f8_common {b : xT} {k N : Nat} {l c : List Nat} (hk : k < 6) (hB : zlB b k l) (hl : l.length ≤ 64) (hs : zst b c) (hv : zcv l.length c) (hc : c ≠ []) (hN : 10 ≤ N) : f_X8_common N (nI k) b = some (nI (zan (fun x => l.getD x 0) c)) := by
  obtain ⟨h1, h2⟩ := zst_ne hs hc
  have hc3 := zcv_len hv
  have hpos : 0 < c.length := List.length_pos_iff.mpr hc
  obtain ⟨fu, rfl⟩ : ∃ fu, N = fu + 1 := ⟨N - 1, by omega⟩
  have := f8_com_loop hk hB hl h1 h2 (zcv_mem hv) hc3 (c.length - 1) 1 (l.getD (c.getD 0 0) 0) fu (by omega) (by omega)
  unfold f_X8_common
  rw [f_X8_common_L4, h1, if_neg (show ¬ nI c.length ≤ (0 : Int32) from nI_ge (a := 0) hpos (by omega)), if_pos z_x03, z_clamp0, h2 0 hpos, f8_at hB hk (zcv_mem hv _ (z_get hpos)) hl, z_sbind, z_m1and, show (0 : Int32) + 1 = nI 1 from rfl, this, z_sbind]
  cases c with
  | nil => exact absurd rfl hc
  | cons x c => rfl
theorem zan_lt {n : Nat} {l c : List Nat} (hw : zlw n l) (hv : zcv l.length c) (hc : c ≠ []) : zan (fun x => l.getD x 0) c < 2 ^ n := by
  cases c with
  | nil => exact absurd rfl hc
  | cons x c =>
    have hx := hw.2.2 _ (z_get (zcv_mem hv x List.mem_cons_self))
    have : ∀ (cc : List Nat) (acc : Nat), acc < 2 ^ n → cc.foldl (fun acc x => acc &&& l.getD x 0) acc < 2 ^ n := by
      intro cc
      induction cc with
      | nil => intro acc h; exact h
      | cons y cc ih2 =>
        intro acc h
        exact ih2 _ (Nat.lt_of_le_of_lt Nat.and_le_left h)
    exact this c _ hx
/-- agreeing at every place is making -/
theorem z_okcm {n s : Nat} {l c : List Nat} (hw : zlw n l) (hv : zcv l.length c) (hc : c ≠ []) (hs : s < 2 ^ n) : zok (fun x => zag n (l.getD x 0) s) (2 ^ n - 1) c = zcm (zan (fun x => l.getD x 0) c) (zor (fun x => l.getD x 0) c) s := by
  have key : ∀ p q : Prop, ∀ [Decidable p] [Decidable q] (r : Prop) [Decidable r], (r ↔ p ∧ q) → decide r = (decide p && decide q) := by
    intro p q _ _ r _ h
    by_cases c1 : p <;> by_cases c2 : q <;> simp [h, c1, c2]
  unfold zok zcm
  apply key
  match c, hv, hc with
  | [], _, hc => exact absurd rfl hc
  | [i], hv, _ =>
    have h := z_ring (y := l.getD i 0) (z := l.getD i 0) (hw.2.2 _ (z_get (show i < l.length from hv))) hs
    simpa [zor, zan, Nat.or_self, Nat.and_self] using h
  | [i, j], hv, _ =>
    have hi : i < l.length := zcv_mem hv i List.mem_cons_self
    have h := z_ring (y := l.getD j 0) (z := l.getD j 0) (hw.2.2 _ (z_get hi)) hs
    rw [Nat.or_assoc, Nat.or_self, Nat.and_assoc, Nat.and_self, Nat.or_assoc, Nat.or_self] at h
    simpa [zor, zan] using h
  | [i, j, q], hv, _ =>
    have hi : i < l.length := zcv_mem hv i List.mem_cons_self
    have h := z_ring (y := l.getD j 0) (z := l.getD q 0) (hw.2.2 _ (z_get hi)) hs
    simpa [zor, zan] using h
  | _ :: _ :: _ :: _ :: _, hv, _ => exact absurd hv (by intro z; exact z)
theorem zor_lt {n : Nat} {l c : List Nat} (hw : zlw n l) (hv : zcv l.length c) : zor (fun x => l.getD x 0) c < 2 ^ n := by
  have : ∀ (cc : List Nat) (acc : Nat), acc < 2 ^ n → (∀ y ∈ cc, y < l.length) → cc.foldl (fun acc x => acc ||| l.getD x 0) acc < 2 ^ n := by
    intro cc
    induction cc with
    | nil => intro acc h _; exact h
    | cons y cc ih2 =>
      intro acc h hy
      exact ih2 _ (Nat.or_lt_two_pow h (hw.2.2 _ (z_get (hy y List.mem_cons_self)))) (fun z hz => hy z (List.mem_cons_of_mem _ hz))
  exact this c 0 (Nat.two_pow_pos n) (zcv_mem hv)
theorem f8_of_loop {b : xT} {c : List Nat} (v1 v2 v3 : Int32) (h31 : gI b 31 = nI c.length) (hc : ∀ t, t < c.length → gA b 59 t = nI (c.getD t 0)) (hc3 : c.length ≤ 3) : ∀ r t acc fuel, t + r = c.length → r < fuel → f_X8_findRings_L53 v1 v2 v3 b fuel acc (nI t) = some ((c.drop t).foldl (fun acc x => acc ||| zm1 x) acc) := by
  intro r
  induction r with
  | zero =>
    intro t acc fuel ht hf
    obtain ⟨fu, rfl⟩ : ∃ fu, fuel = fu + 1 := ⟨fuel - 1, by omega⟩
    rw [f_X8_findRings_L53, h31, if_pos (nI_le (by omega) (by omega)), List.drop_eq_nil_of_le (by omega)]; rfl
  | succ r ih =>
    intro t acc fuel ht hf
    obtain ⟨fu, rfl⟩ : ∃ fu, fuel = fu + 1 := ⟨fuel - 1, by omega⟩
    have htl : t < c.length := by omega
    rw [f_X8_findRings_L53, h31, if_neg (nI_ge (by omega) (by omega)), if_pos (z_xin (by omega) (by decide)), nI_clamp (by omega), hc t htl, z_sbind, nI_1, ih (t + 1) _ fu (by omega) (by omega), z_drop htl]
    rfl
def zrgs (b : xT) (H : List (List Nat)) : Prop := gI b 32 = nI H.length ∧ gJ b 34 = zand H ∧ ((H = [] ∧ gI b 33 = -1) ∨ ∃ c T, H = c :: T ∧ gI b 33 = nI c.length)
theorem zrgs_gf {b b2 : xT} {H : List (List Nat)} (h : zrgs b H) (f : zgf b b2) : zrgs b2 H := by
  obtain ⟨h1, h2, h3⟩ := h
  refine ⟨(f.1 32 (by decide)).trans h1, (f.2.2 34).trans h2, ?_⟩
  rw [f.1 33 (by decide)]
  exact h3
theorem f8_rings_loop {k s h n N : Nat} {l e : List Nat} (hk : k < 6) (hn : n ≤ 12) (hw : zlw n l) (hs : s < 2 ^ n) (h1 : 1 ≤ h) (h3 : h ≤ 3) (he : znx l.length h e = none) (hN : 5000 ≤ N) : ∀ cs c H b fuel, zst b c → zcv l.length c → c.length ≤ h → zcn l.length h c cs e → zlB b k l → zrgs b H → cs.length < fuel → H.length + cs.length ≤ 300000 → ∃ b2, f_X8_findRings_L21 N (nI k) (nI s) (nI h) fuel b = some b2 ∧ zrgs b2 (H ++ cs.filter (zok (fun x => zag n (l.getD x 0) s) (2 ^ n - 1))) ∧ zgf2 b b2 := by
  have hl := hw.1
  have hp := z_pow n (by omega)
  intro cs
  induction cs with
  | nil =>
    intro c H b fuel hst hv hch hcn hB hr hf hb
    obtain ⟨fu, rfl⟩ : ∃ fu, fuel = fu + 1 := ⟨fuel - 1, by omega⟩
    have hce : c = e := hcn
    subst hce
    obtain ⟨b2, f2, ⟨g1, g2⟩ | ⟨c2, g1, -⟩⟩ := f8_goOn (N := N) hk hB.1 hl h1 h3 hst hv hch (by omega)
    · rw [f_X8_findRings_L21, g2, z_sbind]
      simp only [↓reduceIte]
      exact ⟨b2, rfl, by simpa using zrgs_gf hr f2, zgf2_of f2⟩
    · rw [he] at g1; cases g1
  | cons x cs ih =>
    intro c H b fuel hst hv hch hcn hB hr hf hb
    obtain ⟨fu, rfl⟩ : ∃ fu, fuel = fu + 1 := ⟨fuel - 1, by omega⟩
    rw [List.length_cons] at hf hb
    obtain ⟨hx, hcn⟩ := hcn
    obtain ⟨b2, f2, ⟨g1, -⟩ | ⟨c2, g1, g2, g3, g4, g5⟩⟩ := f8_goOn (N := N) hk hB.1 hl h1 h3 hst hv hch (by omega)
    · rw [hx] at g1; cases g1
    · rw [hx] at g1
      have e2 : x = c2 := Option.some.inj g1
      subst e2
      have hne := znx_ne hx
      have fB := zgf2_B (zgf2_of f2) hB
      obtain ⟨s1, s2⟩ := zst_ne g3 hne
      have hlen := zcv_len g4
      have hr2 := zrgs_gf hr f2
      have hzan := zan_lt hw g4 hne
      have hok := z_okcm hw g4 hne hs
      have hof := f8_of_loop (nI k) (nI s) (nI h) s1 s2 hlen x.length 0 0 N (by omega) (by omega)
      rw [List.drop_zero, show x.foldl (fun acc x => acc ||| zm1 x) 0 = zmask x from rfl, show nI 0 = (0 : Int32) from rfl] at hof
      rw [f_X8_findRings_L21, g2, z_sbind]
      simp only [if_neg z10]
      rw [f8_common hk fB hl g3 g4 hne (by omega), z_sbind, f8_all hk fB hl g3 g4 hne (by omega), z_sbind, f8_canMake (by omega) (by omega), z_sbind, ← hok, hof, z_sbind, hr2.1, hr2.2.1, nI_1, ← zand_app, zok_step]
      have hd : zok (fun x => zag n (l.getD x 0) s) (2 ^ n - 1) x = decide (zor (fun x => zag n (l.getD x 0) s) x = 2 ^ n - 1) := rfl
      by_cases c1 : zor (fun x => zag n (l.getD x 0) s) x = 2 ^ n - 1
      · rw [hd, decide_eq_true c1, if_neg (by decide), if_pos c1]
        have hH : nI (H.length + 1) = nI (H ++ [x]).length := by rw [List.length_append, List.length_singleton]
        have key : ∀ v : Int32, ((H = [] ∧ v = nI x.length) ∨ (H ≠ [] ∧ v = gI b2 33)) → ∃ b3, f_X8_findRings_L21 N (nI k) (nI s) (nI h) fu (sI (sI (sJ b2 34 (zand (H ++ [x]))) 33 v) 32 (nI (H.length + 1))) = some b3 ∧ zrgs b3 ((H ++ [x]) ++ cs.filter (zok (fun x => zag n (l.getD x 0) s) (2 ^ n - 1))) ∧ zgf2 b b3 := by
          intro v hv2
          have fr : zgf2 b2 (sI (sI (sJ b2 34 (zand (H ++ [x]))) 33 v) 32 (nI (H.length + 1))) := ⟨fun j hj => by rw [gI_sI, if_neg (by omega), gI_sI, if_neg (by omega)]; rfl, fun _ _ _ => rfl⟩
          have hst3 : zst (sI (sI (sJ b2 34 (zand (H ++ [x]))) 33 v) 32 (nI (H.length + 1))) x := Or.inr ⟨hne, s1, s2⟩
          have hr3 : zrgs (sI (sI (sJ b2 34 (zand (H ++ [x]))) 33 v) 32 (nI (H.length + 1))) (H ++ [x]) := by
            refine ⟨hH, rfl, Or.inr ?_⟩
            rcases hv2 with ⟨z1, z2⟩ | ⟨z1, z2⟩
            · exact ⟨x, [], by rw [z1]; rfl, z2⟩
            · rcases hr2.2.2 with ⟨y1, -⟩ | ⟨c3, T, y1, y2⟩
              · exact absurd y1 z1
              · exact ⟨c3, T ++ [x], by rw [y1]; rfl, z2.trans y2⟩
          obtain ⟨b3, e3, t3, f3⟩ := ih x (H ++ [x]) _ fu hst3 g4 g5 hcn (zgf2_B fr fB) hr3 (by omega) (by rw [List.length_append, List.length_singleton]; omega)
          exact ⟨b3, e3, t3, zgf2_tr (zgf2_of f2) (zgf2_tr fr f3)⟩
        by_cases c2 : H = []
        · rw [if_pos (show nI H.length = 0 by rw [c2]; rfl), s1]
          exact key _ (Or.inl ⟨c2, rfl⟩)
        · have hpos : H.length ≠ 0 := fun z => c2 (List.eq_nil_of_length_eq_zero z)
          rw [if_neg (fun z => hpos ((nI_eq0 (by omega)).mp z))]
          exact key _ (Or.inr ⟨c2, rfl⟩)
      · rw [hd, decide_eq_false c1, if_pos (by decide), if_neg c1]
        obtain ⟨b3, e3, t3, f3⟩ := ih x H b2 fu g3 g4 g5 hcn fB hr2 (by omega) (by omega)
        exact ⟨b3, e3, t3, zgf2_tr (zgf2_of f2) f3⟩
def zal (H : List (List Nat)) : Int64 := if H = [] then 0 else zand H
theorem f8_findRings {k s h n N : Nat} {b : xT} {l : List Nat} (hk : k < 6) (hn : n ≤ 12) (hw : zlw n l) (hs : s < 2 ^ n) (h1 : 1 ≤ h) (h3 : h ≤ 3) (hB : zlB b k l) (hN : 1000000 ≤ N) : ∃ b2 H, H = (zka (List.range' 0 l.length) h).filter (zok (fun x => zag n (l.getD x 0) s) (2 ^ n - 1)) ∧ H.length ≤ 300000 ∧ f_X8_findRings N (nI k) (nI s) (nI h) b = some b2 ∧ gI b2 32 = nI H.length ∧ gJ b2 34 = zal H ∧ ((H = [] ∧ gI b2 33 = -1) ∨ ∃ c T, H = c :: T ∧ gI b2 33 = nI c.length) ∧ zgf2 b b2 := by
  have hl := hw.1
  have f0 : zgf2 b (sJ (sI (sI b 32 0) 33 (-1)) 34 (-1)) := ⟨fun j hj => by rw [gI_sJ, gI_sI, if_neg (by omega), gI_sI, if_neg (by omega)], fun _ _ _ => rfl⟩
  obtain ⟨b1, q0, q1, q2⟩ := f8_begin (sJ (sI (sI b 32 0) 33 (-1)) 34 (-1))
  obtain ⟨e, hcn, hce⟩ := zcn_all (len := l.length) h1
  have hklen := zka_len (xs := List.range' 0 l.length) (h := h) (by rw [List.length_range']; exact hl)
  have f1 := zgf2_tr f0 (zgf2_of q2)
  have hr : zrgs b1 [] := zrgs_gf (b := sJ (sI (sI b 32 0) 33 (-1)) 34 (-1)) ⟨rfl, rfl, Or.inl ⟨rfl, rfl⟩⟩ q2
  obtain ⟨b2, r0, r1, r2⟩ := f8_rings_loop hk hn hw hs h1 h3 hce (show 5000 ≤ N by omega) _ [] [] b1 N q1 (by trivial) (by simp) hcn (zgf2_B f1 hB) hr (by omega) (by simpa using hklen)
  rw [List.nil_append] at r1
  have hHl : ((zka (List.range' 0 l.length) h).filter (zok (fun x => zag n (l.getD x 0) s) (2 ^ n - 1))).length ≤ 300000 := Nat.le_trans (List.length_filter_le _ _) hklen
  generalize (zka (List.range' 0 l.length) h).filter (zok (fun x => zag n (l.getD x 0) s) (2 ^ n - 1)) = H at *
  unfold f_X8_findRings
  rw [q0, z_sbind, r0, z_sbind, r1.1, r1.2.1]
  have f2 := zgf2_tr f1 r2
  by_cases c : H = []
  · rw [if_pos (show nI H.length = 0 by rw [c]; rfl)]
    refine ⟨_, H, rfl, hHl, rfl, r1.1, ?_, r1.2.2, f2⟩
    unfold zal; rw [if_pos c]; rfl
  · have hpos : H.length ≠ 0 := fun z => c (List.eq_nil_of_length_eq_zero z)
    rw [if_neg (fun z => hpos ((nI_eq0 (by omega)).mp z))]
    refine ⟨_, H, rfl, hHl, rfl, r1.1, ?_, r1.2.2, f2⟩
    unfold zal; rw [if_neg c]; rfl
