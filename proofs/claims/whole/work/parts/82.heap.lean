/-! what is offered; heap -/
def zcof (a a2 : xT) : Prop := (∀ j, j ≠ 17 → gI a2 j = gI a j) ∧ (∀ c j, c ≠ 20 → c ≠ 21 → gA a2 c j = gA a c j) ∧ ∀ c j, gB a2 c j = gB a c j
def zcv6 (a a2 : xT) : Prop := (∀ j, (j < 17 ∨ 20 < j) → gI a2 j = gI a j) ∧ (∀ c j, (c < 20 ∨ 22 < c) → gA a2 c j = gA a c j) ∧ ∀ c j, gB a2 c j = gB a c j
def zgf2 (b b2 : xT) : Prop := (∀ j, (j < 31 ∨ 33 < j) → gI b2 j = gI b j) ∧ ∀ c j, c ≠ 59 → gA b2 c j = gA b c j
theorem zcof_refl (a : xT) : zcof a a := ⟨fun _ _ => rfl, fun _ _ _ _ => rfl, fun _ _ => rfl⟩
theorem zcof_tr {a b c : xT} (h : zcof a b) (g : zcof b c) : zcof a c := ⟨fun j hj => (g.1 j hj).trans (h.1 j hj), fun x j hx hy => (g.2.1 x j hx hy).trans (h.2.1 x j hx hy), fun x j => (g.2.2 x j).trans (h.2.2 x j)⟩
theorem zcv6_tr {a b c : xT} (h : zcv6 a b) (g : zcv6 b c) : zcv6 a c := ⟨fun j hj => (g.1 j hj).trans (h.1 j hj), fun x j hx => (g.2.1 x j hx).trans (h.2.1 x j hx), fun x j => (g.2.2 x j).trans (h.2.2 x j)⟩
theorem zgf2_tr {a b c : xT} (h : zgf2 a b) (g : zgf2 b c) : zgf2 a c := ⟨fun j hj => (g.1 j hj).trans (h.1 j hj), fun x j hx => (g.2 x j hx).trans (h.2 x j hx)⟩
theorem zcv6_refl (a : xT) : zcv6 a a := ⟨fun _ _ => rfl, fun _ _ _ => rfl, fun _ _ => rfl⟩
theorem zgf2_refl (a : xT) : zgf2 a a := ⟨fun _ _ => rfl, fun _ _ _ => rfl⟩
theorem zcv6_of {a a2 : xT} (h : zcof a a2) : zcv6 a a2 := ⟨fun j hj => h.1 j (by omega), fun c j hc => h.2.1 c j (by omega) (by omega), h.2.2⟩
theorem zcv6_cv {a a2 : xT} (h : zcvf a a2) : zcv6 a a2 := ⟨fun j hj => h.1 j (by omega) (by omega), fun c j hc => h.2.1 c j (by omega), h.2.2⟩
theorem zgf2_of {b b2 : xT} (h : zgf b b2) : zgf2 b b2 := ⟨fun j hj => h.1 j (by omega), h.2.1⟩
theorem zcv6_A {a a2 : xT} {k : Nat} {l : List Nat} (h : zcv6 a a2) (g : zlA a k l) : zlA a2 k l := zlA_keep g (h.1 _ (by omega)) (fun i => h.2.1 _ _ (by omega)) (fun i => h.2.2 _ _)
theorem zcv6_is {a a2 : xT} {n kd t d : Nat} (h : zcv6 a a2) (g : zis a n kd t d) : zis a2 n kd t d := zis_keep g (fun j hj => h.1 j (by omega))
theorem zgf2_B {b b2 : xT} {k : Nat} {l : List Nat} (h : zgf2 b b2) (g : zlB b k l) : zlB b2 k l := zlB_keep g (h.2 _ _ (by decide)) (fun i => h.2 _ _ (by decide))
theorem zInv_cov {a a2 b b2 : xT} (h : zInv a b) (f : zcv6 a a2) (g : zgf2 b b2) : zInv a2 b2 := by
  obtain ⟨n, kd, t, d, hb, ha, hB, ⟨ls, hls⟩, hlo, htx, hf, hca⟩ := h
  refine ⟨n, kd, t, d, hb, zcv6_is f ha, zis_keep hB (fun j hj => g.1 j (by omega)), ⟨ls, fun k hk => ⟨(hls k hk).1, zcv6_A f (hls k hk).2.1, zgf2_B g (hls k hk).2.2⟩⟩, zlo_keep hlo (fun i => f.2.1 _ _ (by decide)) (fun i => g.2 _ _ (by decide)), ztx_keep htx (f.1 _ (by decide)) (g.1 _ (by decide)) (fun i => f.2.1 _ _ (by decide)) (fun i => g.2 _ _ (by decide)), ?_, zca_keep hca (f.1 _ (by decide)) (f.1 _ (by decide)) (f.1 _ (by decide)) (fun i => f.2.1 _ _ (by decide))⟩
  rw [f.1 11 (by decide), g.1 15 (by decide)]; exact hf
theorem f0_offer {a : xT} {F : List Nat} {g : Nat → Nat} {tg i : Nat} (hp : zpt a F g tg) (hF : F.length < 64) : ∃ a2, f_X0_offer (nI i) (nI (g i)) a = some a2 ∧ zpt a2 (F ++ [i]) g tg ∧ zcof a a2 := by
  have hx := z_xin (k := F.length) (n := 64) hF (by decide)
  unfold f_X0_offer
  rw [hp.1, if_neg (show ¬ (64 : Int32) ≤ nI F.length from nI_ge (b := 64) hF (by decide)), if_pos hx, if_pos hx, nI_clamp (by omega), nI_1]
  refine ⟨_, rfl, ⟨?_, ?_, fun x hx2 => ?_⟩, fun j hj => ?_, fun c j h1 h2 => ?_, fun c j => rfl⟩
  · rw [gI_sI, if_pos rfl, List.length_append, List.length_singleton]
  · exact hp.2.1
  · rw [List.length_append, List.length_singleton] at hx2
    rw [gA_sI, gA_sA, if_neg (by decide), gA_sA, if_pos rfl, gA_sI, gA_sA, if_pos rfl, upd_at, upd_at]
    by_cases e : x = F.length
    · rw [if_pos e, if_pos e, e]; simp
    · rw [if_neg e, if_neg e, zgetD_app (by omega)]
      exact hp.2.2 x (by omega)
  · rw [gI_sI, if_neg hj]; rfl
  · rw [gA_sI, gA_sA, if_neg h2, gA_sA, if_neg h1]
theorem zpt_start (a : xT) (g : Nat → Nat) (tg : Nat) : zpt (sI (sI a 18 (nI tg)) 17 0) [] g tg ∧ zcv6 a (sI (sI a 18 (nI tg)) 17 0) := by
  refine ⟨⟨rfl, rfl, fun i hi => absurd hi (Nat.not_lt_zero i)⟩, fun j hj => ?_, fun c j _ => rfl, fun c j => rfl⟩
  rw [gI_sI, if_neg (by omega), gI_sI, if_neg (by omega)]
theorem f7_heap_loop {k s : Nat} {l : List Nat} (v3 v4 : Int32) (hl : l.length ≤ 64) (hlt : ∀ x ∈ l, x < 4096) : ∀ r i F a fuel, zlA a k l → zpt a F (fun x => l.getD x 0) s → F.length ≤ i → i + r = l.length → r < fuel → ∃ a2, f_X7_heap_L64 (nI s) v3 v4 k fuel (nI i) a = some a2 ∧ zpt a2 (F ++ (List.range' i r).filter (fun x => decide (znd (l.getD x 0) s = 0))) (fun x => l.getD x 0) s ∧ zcv6 a a2 := by
  intro r
  induction r with
  | zero =>
    intro i F a fuel hA hp hFi hi hf
    obtain ⟨fu, rfl⟩ : ∃ fu, fuel = fu + 1 := ⟨fuel - 1, by omega⟩
    refine ⟨a, ?_, by simpa using hp, zcv6_refl a⟩
    rw [f_X7_heap_L64, hA.1, if_pos (nI_le (by omega) (by omega))]
  | succ r ih =>
    intro i F a fuel hA hp hFi hi hf
    obtain ⟨fu, rfl⟩ : ∃ fu, fuel = fu + 1 := ⟨fuel - 1, by omega⟩
    have hil : i < l.length := by omega
    have hm := znd_12 (s := s) (hlt _ (z_get hil))
    have hx := z_xin (k := i) (n := 64) (by omega) (by decide)
    rw [f_X7_heap_L64, hA.1, if_neg (nI_ge (by omega) (by omega)), if_pos hx, if_pos hx, nI_clamp (by omega), hA.2.1 i hil, znd_and, nI_1, List.range'_succ, List.filter_cons]
    by_cases c : znd (l.getD i 0) s = 0
    · rw [if_pos ((nI_eq0 (by omega)).mpr c), if_pos (decide_eq_true c)]
      obtain ⟨a2, e, h1, h2⟩ := f0_offer (i := i) hp (by omega)
      rw [e, z_sbind]
      have f2 := zcv6_of h2
      obtain ⟨a3, e3, h3, h4⟩ := ih (i + 1) _ a2 fu (zcv6_A f2 hA) h1 (by rw [List.length_append, List.length_singleton]; omega) (by omega) (by omega)
      refine ⟨a3, e3, ?_, zcv6_tr f2 h4⟩
      rw [List.append_cons]
      exact h3
    · rw [if_neg (fun z => c ((nI_eq0 (by omega)).mp z)), if_neg (by simp only [decide_eq_true_eq]; exact c)]
      exact ih (i + 1) _ a fu hA hp (by omega) (by omega) (by omega)
/-! the reference: what the set that stands has in all, in common -/
theorem zcv_mem {len : Nat} : ∀ {c : List Nat}, zcv len c → ∀ x ∈ c, x < len
  | [], _, x, hx => absurd hx List.not_mem_nil
  | [i], h, x, hx => by rw [List.mem_singleton.mp hx]; exact h
  | [i, j], h, x, hx => by
    obtain ⟨h1, h2⟩ : i < j ∧ j < len := h
    simp only [List.mem_cons, List.not_mem_nil, or_false] at hx
    omega
  | [i, j, l], h, x, hx => by
    obtain ⟨h1, h2, h3⟩ : i < j ∧ j < l ∧ l < len := h
    simp only [List.mem_cons, List.not_mem_nil, or_false] at hx
    omega
  | _ :: _ :: _ :: _ :: _, h, _, _ => absurd h (by intro z; exact z)
theorem f8_all_loop {b : xT} {k : Nat} {l c : List Nat} (hk : k < 6) (hB : zlB b k l) (hl : l.length ≤ 64) (h31 : gI b 31 = nI c.length) (hc : ∀ t, t < c.length → gA b 59 t = nI (c.getD t 0)) (hm : ∀ x ∈ c, x < l.length) (hc3 : c.length ≤ 3) : ∀ r t acc fuel, t + r = c.length → r < fuel → f_X8_all_L4 (nI k) b fuel (nI acc) (nI t) = some (nI ((c.drop t).foldl (fun acc x => acc ||| l.getD x 0) acc)) := by
  intro r
  induction r with
  | zero =>
    intro t acc fuel ht hf
    obtain ⟨fu, rfl⟩ : ∃ fu, fuel = fu + 1 := ⟨fuel - 1, by omega⟩
    rw [f_X8_all_L4, h31, if_pos (nI_le (by omega) (by omega)), List.drop_eq_nil_of_le (by omega)]; rfl
  | succ r ih =>
    intro t acc fuel ht hf
    obtain ⟨fu, rfl⟩ : ∃ fu, fuel = fu + 1 := ⟨fuel - 1, by omega⟩
    have htl : t < c.length := by omega
    rw [f_X8_all_L4, h31, if_neg (nI_ge (by omega) (by omega)), if_pos (z_xin (by omega) (by decide)), nI_clamp (by omega), hc t htl, f8_at hB hk (hm _ (z_get htl)) hl, z_sbind, zI_or, nI_1, ih (t + 1) _ fu (by omega) (by omega), z_drop htl]
    rfl
theorem zst_ne {b : xT} {c : List Nat} (h : zst b c) (hc : c ≠ []) : gI b 31 = nI c.length ∧ ∀ t, t < c.length → gA b 59 t = nI (c.getD t 0) := (h.resolve_left (fun z => hc z.1)).2
theorem zcv_len {len : Nat} : ∀ {c : List Nat}, zcv len c → c.length ≤ 3
  | [], _ => by simp
  | [_], _ => by simp
  | [_, _], _ => by simp
  | [_, _, _], _ => by simp
  | _ :: _ :: _ :: _ :: _, h => absurd h (by intro z; exact z)
theorem f8_all {b : xT} {k N : Nat} {l c : List Nat} (hk : k < 6) (hB : zlB b k l) (hl : l.length ≤ 64) (hs : zst b c) (hv : zcv l.length c) (hc : c ≠ []) (hN : 10 ≤ N) : f_X8_all N (nI k) b = some (nI (zor (fun x => l.getD x 0) c)) := by
  obtain ⟨h1, h2⟩ := zst_ne hs hc
  have hc3 := zcv_len hv
  have := f8_all_loop hk hB hl h1 h2 (zcv_mem hv) hc3 c.length 0 0 N (by omega) (by omega)
  rw [show nI 0 = (0 : Int32) from rfl, List.drop_zero] at this
  unfold f_X8_all
  rw [this]
  rfl
theorem znx_ne {len h : Nat} {c c2 : List Nat} (h1 : znx len h c = some c2) : c2 ≠ [] := by
  intro z
  subst z
  revert h1
  unfold znx
  split <;> (repeat' split) <;> simp
theorem f8_begin (b : xT) : ∃ b2, f_X8_begin b = some b2 ∧ zst b2 [] ∧ zgf b b2 := by
  unfold f_X8_begin
  rw [if_pos z_x03]
  refine ⟨_, rfl, Or.inl ⟨rfl, rfl, ?_⟩, fun j hj => ?_, fun c j hc => ?_, fun j => rfl⟩
  · rw [gA_sA, if_pos rfl, upd_at, z_clamp0, if_pos rfl]
  · rw [gI_sA, gI_sI, if_neg hj]
  · rw [gA_sA, if_neg hc]; rfl
def ztw (q : Nat) (c : List Nat) : Int32 := if q = 0 then nI c.length else if c.length < q then -1 else nI (c.getD (q - 1) 0)
def zht (q : Nat) (H : List (List Nat)) (v : Int32) : Prop := (H = [] ∧ v = -1) ∨ ∃ c T, H = c :: T ∧ v = ztw q c
theorem f8_heap_loop {k s h n N q : Nat} {w : Int32} {l e : List Nat} (hk : k < 6) (hn : n ≤ 12) (hw : zlw n l) (hs : s < 4096) (h1 : 1 ≤ h) (h3 : h ≤ 3) (hq : q ≤ 3) (hwq : w = nI q ∨ w = -1) (he : znx l.length h e = none) (hN : 5000 ≤ N) : ∀ cs c H v b fuel, zst b c → zcv l.length c → c.length ≤ h → zcn l.length h c cs e → zlB b k l → cs.length < fuel → H.length + cs.length ≤ 300000 → (w = nI q → zht q H v) → ∃ b2 v2, f_X8_heap_L50 N (nI k) (nI s) (nI h) w fuel (nI H.length) v b = some (nI (H ++ cs.filter (zok (fun x => l.getD x 0) s)).length, v2, b2) ∧ (w = nI q → zht q (H ++ cs.filter (zok (fun x => l.getD x 0) s)) v2) ∧ zgf b b2 := by
  have hl := hw.1
  intro cs
  induction cs with
  | nil =>
    intro c H v b fuel hst hv hch hcn hB hf hb hz
    obtain ⟨fu, rfl⟩ : ∃ fu, fuel = fu + 1 := ⟨fuel - 1, by omega⟩
    have hce : c = e := hcn
    subst hce
    obtain ⟨b2, f2, ⟨g1, g2⟩ | ⟨c2, g1, -⟩⟩ := f8_goOn (N := N) hk hB.1 hl h1 h3 hst hv hch (by omega)
    · rw [f_X8_heap_L50, g2, z_sbind]
      simp only [↓reduceIte]
      refine ⟨b2, v, ?_, ?_, f2⟩
      · simp
      · intro z; simpa using hz z
    · rw [he] at g1; cases g1
  | cons x cs ih =>
    intro c H v b fuel hst hv hch hcn hB hf hb hz
    obtain ⟨fu, rfl⟩ : ∃ fu, fuel = fu + 1 := ⟨fuel - 1, by omega⟩
    rw [List.length_cons] at hf hb
    obtain ⟨hx, hcn⟩ := hcn
    obtain ⟨b2, f2, ⟨g1, -⟩ | ⟨c2, g1, g2, g3, g4, g5⟩⟩ := f8_goOn (N := N) hk hB.1 hl h1 h3 hst hv hch (by omega)
    · rw [hx] at g1; cases g1
    · rw [hx] at g1
      have e2 : x = c2 := Option.some.inj g1
      subst e2
      have hne := znx_ne hx
      have fB := zgf2_B (zgf2_of f2) hB
      obtain ⟨s1, s2⟩ := zst_ne g3 hne
      have hlen := zcv_len g4
      have hlt : zor (fun x => l.getD x 0) x < 4096 := by
        have : ∀ (cc : List Nat) (acc : Nat), acc < 4096 → (∀ y ∈ cc, y < l.length) → cc.foldl (fun acc x => acc ||| l.getD x 0) acc < 4096 := by
          intro cc
          induction cc with
          | nil => intro acc h _; exact h
          | cons y cc ih2 =>
            intro acc h hy
            exact ih2 _ (Nat.or_lt_two_pow (n := 12) h (zlw_lt hw hn _ (z_get (hy y List.mem_cons_self)))) (fun z hz => hy z (List.mem_cons_of_mem _ hz))
        exact this x 0 (by decide) (zcv_mem g4)
      rw [f_X8_heap_L50, g2, z_sbind]
      simp only [if_neg z10]
      rw [f8_all hk fB hl g3 g4 hne (by omega), z_sbind, zok_step]
      by_cases c1 : zor (fun x => l.getD x 0) x = s
      · rw [if_pos (by rw [c1]), if_pos c1, nI_1]
        have hH : nI (H.length + 1) = nI (H ++ [x]).length := by rw [List.length_append, List.length_singleton]
        have key : ∀ v' : Int32, (w = nI q → zht q (H ++ [x]) v') → ∃ b3 v2, f_X8_heap_L50 N (nI k) (nI s) (nI h) w fu (nI (H.length + 1)) v' b2 = some (nI ((H ++ [x]) ++ cs.filter (zok (fun x => l.getD x 0) s)).length, v2, b3) ∧ (w = nI q → zht q ((H ++ [x]) ++ cs.filter (zok (fun x => l.getD x 0) s)) v2) ∧ zgf b b3 := by
          intro v' hv'
          rw [hH]
          obtain ⟨b3, v2, e3, t3, f3⟩ := ih x (H ++ [x]) v' b2 fu g3 g4 g5 hcn fB (by omega) (by rw [List.length_append, List.length_singleton]; omega) hv'
          exact ⟨b3, v2, e3, t3, zgf_tr f2 f3⟩
        by_cases c2 : H = []
        · subst c2
          rw [if_pos (show nI ([] : List (List Nat)).length = 0 from rfl)]
          rcases hwq with rfl | rfl
          · by_cases q0 : q = 0
            · subst q0
              rw [if_pos (show nI 0 = (0 : Int32) from rfl), s1]
              exact key _ (fun _ => Or.inr ⟨x, [], rfl, rfl⟩)
            · rw [if_neg (fun z => q0 ((nI_eq0 (by omega)).mp z)), if_neg (show ¬ nI q ≤ (0 : Int32) from nI_ge (a := 0) (by omega) (by omega)), s1]
              by_cases q1 : x.length < q
              · rw [if_pos (nI_lt q1 (by omega))]
                exact key _ (fun _ => Or.inr ⟨x, [], rfl, by unfold ztw; rw [if_neg q0, if_pos q1]⟩)
              · have e5 : nI q - 1 = nI (q - 1) := pk_sub (b := 1) (by omega)
                rw [if_neg (nI_nlt (by omega) (by omega)), e5, if_pos (z_xin (by omega) (by decide)), nI_clamp (by omega), s2 _ (by omega), z_sbind]
                exact key _ (fun _ => Or.inr ⟨x, [], rfl, by unfold ztw; rw [if_neg q0, if_neg q1]⟩)
          · rw [if_neg (by decide), if_pos (by decide)]
            exact key _ (fun z => absurd z.symm (nI_nneg (by omega)))
        · have hpos : H.length ≠ 0 := fun z => c2 (List.eq_nil_of_length_eq_zero z)
          rw [if_neg (fun z => hpos ((nI_eq0 (by omega)).mp z))]
          refine key v (fun z => ?_)
          rcases hz z with ⟨z1, -⟩ | ⟨c3, T, z1, z2⟩
          · exact absurd z1 c2
          · exact Or.inr ⟨c3, T ++ [x], by rw [z1]; rfl, z2⟩
      · rw [if_neg (fun z => c1 ((nI_eq (by omega) (by omega)).mp z)), if_neg c1]
        obtain ⟨b3, v2, e3, t3, f3⟩ := ih x H v b2 fu g3 g4 g5 hcn fB (by omega) (by omega) hz
        exact ⟨b3, v2, e3, t3, zgf_tr f2 f3⟩
theorem zor_bit (g : Nat → Nat) (j : Nat) : ∀ (c : List Nat) (acc : Nat), (acc.testBit j = true → (c.foldl (fun acc x => acc ||| g x) acc).testBit j = true) ∧ ∀ x ∈ c, (g x).testBit j = true → (c.foldl (fun acc x => acc ||| g x) acc).testBit j = true
  | [], acc => ⟨fun h => h, fun x hx => absurd hx List.not_mem_nil⟩
  | y :: c, acc => by
    obtain ⟨h1, h2⟩ := zor_bit g j c (acc ||| g y)
    refine ⟨fun h => h1 (by rw [Nat.testBit_or, h]; rfl), fun x hx hb => ?_⟩
    rcases List.mem_cons.mp hx with rfl | hx
    · exact h1 (by rw [Nat.testBit_or, hb, Bool.or_true])
    · exact h2 x hx hb
theorem zor_sub {g : Nat → Nat} {c : List Nat} {s x : Nat} (h : zor g c = s) (hx : x ∈ c) : znd (g x) s = 0 := by
  apply Nat.eq_of_testBit_eq
  intro j
  rw [znd_bit, Nat.zero_testBit]
  by_cases hb : (g x).testBit j = true
  · have := (zor_bit g j c 0).2 x hx hb
    rw [show c.foldl (fun acc x => acc ||| g x) 0 = s from h] at this
    rw [this, hb]; rfl
  · have : (g x).testBit j = false := by simpa using hb
    rw [this]; rfl
theorem zheap_eq {g : Nat → Nat} {s len h : Nat} : (zka ((List.range' 0 len).filter (fun x => decide (znd (g x) s = 0))) h).filter (zok g s) = (zka (List.range' 0 len) h).filter (zok g s) := by
  rw [zka_filter, List.filter_filter]
  apply List.filter_congr
  intro c _
  by_cases hc : zok g s c = true
  · rw [hc]
    simp only [Bool.true_and, List.all_eq_true, decide_eq_true_eq]
    exact fun x hx => zor_sub (of_decide_eq_true hc) hx
  · have : zok g s c = false := by simpa using hc
    rw [this]; rfl
theorem f0_first {a : xT} {H : List (List Nat)} {q : Nat} (h : zcov a H) (hq0 : 0 < q) (hq : q ≤ 3) : ∃ v, f_X0_firstAt (nI q - 1) a = some v ∧ zht q H v := by
  have e5 : nI q - 1 = nI (q - 1) := pk_sub (b := 1) (by omega)
  unfold f_X0_firstAt
  rw [e5, if_neg (nI_pos (by omega))]
  rcases h.2.2 with ⟨e, e20⟩ | ⟨c, T, e, e1, e2, e20, e3⟩
  · rw [e20, if_pos (show (-1 : Int32) ≤ nI (q - 1) from Int32.le_iff_toInt_le.mpr (by rw [nI_toInt (by omega)]; simp))]
    exact ⟨_, rfl, Or.inl ⟨e, rfl⟩⟩
  · rw [e20]
    by_cases c1 : c.length < q
    · rw [if_pos (nI_le (by omega) (by omega))]
      exact ⟨_, rfl, Or.inr ⟨c, T, e, by unfold ztw; rw [if_neg (by omega), if_pos c1]⟩⟩
    · rw [if_neg (nI_ge (by omega) (by omega)), if_neg (show ¬ (3 : Int32) ≤ nI (q - 1) from nI_ge (b := 3) (by omega) (by decide)), if_pos (z_xin (by omega) (by decide)), nI_clamp (by omega), e3 _ (by omega)]
      exact ⟨_, rfl, Or.inr ⟨c, T, e, by unfold ztw; rw [if_neg (by omega), if_neg c1]⟩⟩
theorem zht_eq {q : Nat} {H : List (List Nat)} {v w : Int32} (h1 : zht q H v) (h2 : zht q H w) : v = w := by
  rcases h1 with ⟨e1, e2⟩ | ⟨c, T, e1, e2⟩ <;> rcases h2 with ⟨f1, f2⟩ | ⟨c', T', f1, f2⟩
  · rw [e2, f2]
  · rw [e1] at f1; cases f1
  · rw [e1] at f1; cases f1
  · rw [e1] at f1; cases f1; rw [e2, f2]
theorem p_heap {N : Nat} (hN : 1000000 ≤ N) : xP_heap N zInv := by
  intro y1 y2 y3 y4 a b hI
  obtain ⟨n, kd, t, d, hb, ha, hB, ⟨ls, hls⟩, hlo, htx, hf, hca⟩ := id hI
  have hn := hb.2.1
  have hp := z_pow n (by omega)
  unfold f_X7_heap f_X8_heap f_X8_isAsked
  rcases z_isL y1 with ⟨e1, e2⟩ | ⟨k, hk, rfl, e1, e2⟩
  · rw [e1, e2]; exact ⟨_, _, _, rfl, rfl, hI⟩
  rw [e1, e2]
  simp only [z_sbind, if_neg z10]
  rw [f1_isSet y2 ha.1 hn, f8_isMark y2 hB.1 hn]
  simp only [z_sbind]
  by_cases c2 : y2 < 0 ∨ nI (2 ^ n - 1) < y2
  · rw [if_pos c2]; exact ⟨_, _, _, rfl, rfl, hI⟩
  rw [if_neg c2]
  obtain ⟨s, hs, rfl⟩ := z_setOf hn c2
  simp only [if_neg z10]
  have w3 := f8_in y3 1 3
  rw [show (1 : Int32).toInt64 = 1 from rfl, show (3 : Int32).toInt64 = 3 from rfl] at w3
  rw [f7_within, w3]
  simp only [z_sbind]
  by_cases c3 : y3 < 1 ∨ 3 < y3
  · rw [if_pos c3]; exact ⟨_, _, _, rfl, rfl, hI⟩
  rw [if_neg c3]
  obtain ⟨h, hh1, hh3, rfl⟩ := i32_rng (v := y3) 1 3 (fun z => c3 (Or.inl z)) (fun z => c3 (Or.inr z)) (by decide) (by decide)
  simp only [if_neg z10, z_sbind]
  have w4 := f8_in y4 (-1) 3
  rw [show (-1 : Int32).toInt64 = -1 from rfl, show (3 : Int32).toInt64 = 3 from rfl] at w4
  rw [f7_within, w4]
  simp only [z_sbind]
  by_cases c4 : y4 < -1 ∨ 3 < y4
  · rw [if_pos c4]; exact ⟨_, _, _, rfl, rfl, hI⟩
  rw [if_neg c4]
  have hx6 := z_xin (n := 6) hk (by decide)
  simp only [if_neg z10, if_pos hx6]
  obtain ⟨h1, h2, h3⟩ := hls k hk
  have hl := h1.1
  have hq4 : y4 = -1 ∨ ∃ q, q ≤ 3 ∧ y4 = nI q := by
    by_cases e : y4 = -1
    · exact Or.inl e
    · right
      have g1 : ¬ y4.toInt < -1 := fun z => c4 (Or.inl (Int32.lt_iff_toInt_lt.mpr z))
      have g2 : ¬ 3 < y4.toInt := fun z => c4 (Or.inr (Int32.lt_iff_toInt_lt.mpr z))
      have g3 : y4.toInt ≠ -1 := fun z => e (Int32.toInt_inj.mp z)
      refine ⟨y4.toInt.toNat, by omega, ?_⟩
      apply Int32.toInt_inj.mp
      rw [nI_toInt (by omega)]
      omega
  unfold f_X0_start
  rw [z_sbind, nI_clamp (by omega)]
  obtain ⟨st1, st2⟩ := zpt_start a (fun x => (ls k).getD x 0) s
  obtain ⟨a2, u0, u1, u2⟩ := f7_heap_loop (s := s) (nI h) y4 hl (zlw_lt h1 hn) (ls k).length 0 [] _ N (zcv6_A st2 h2) st1 (by simp) (by omega) (by omega)
  rw [List.nil_append] at u1
  have hFl : ((List.range' 0 (ls k).length).filter (fun x => decide (znd ((ls k).getD x 0) s = 0))).length ≤ 64 := by
    have := List.length_filter_le (fun x => decide (znd ((ls k).getD x 0) s = 0)) (List.range' 0 (ls k).length)
    rw [List.length_range'] at this
    omega
  obtain ⟨a3, v0, v1, v2⟩ := f0_search (N := N) (h := h) hFl (fun x hx => zlw_lt h1 hn _ (z_get (zrg_mem.mp hx).1)) (show s < 4096 by omega) hh3 (by omega) u1
  rw [zheap_eq] at v1
  obtain ⟨b1, q0, q1, q2⟩ := f8_begin b
  obtain ⟨e, hcn, hce⟩ := zcn_all (len := (ls k).length) hh1
  have hklen := zka_len (xs := List.range' 0 (ls k).length) (h := h) (by rw [List.length_range']; exact hl)
  rw [show nI 0 = (0 : Int32) from rfl] at u0
  rw [u0, z_sbind, v0, z_sbind, q0, z_sbind]
  have fA := zcv6_tr (zcv6_tr st2 u2) (zcv6_cv v2)
  rcases hq4 with rfl | ⟨q, hq, rfl⟩
  · obtain ⟨b2, v', r0, r1, r2⟩ := f8_heap_loop (w := -1) (q := 0) hk hn h1 (show s < 4096 by omega) hh1 hh3 (by decide) (Or.inr rfl) hce (show 5000 ≤ N by omega) _ [] [] (-1) b1 N q1 (by trivial) (by simp) hcn (zgf2_B (zgf2_of q2) h3) (by omega) (by simpa using hklen) (fun z => absurd z.symm (nI_nneg (by decide)))
    rw [List.nil_append] at r0
    rw [show nI ([] : List (List Nat)).length = (0 : Int32) from rfl] at r0
    rw [r0, z_sbind]
    simp only [↓reduceIte]
    rw [v1.1]
    exact ⟨_, _, _, rfl, rfl, zInv_cov hI fA (zgf2_of (zgf_tr q2 r2))⟩
  · obtain ⟨b2, v', r0, r1, r2⟩ := f8_heap_loop (w := nI q) (q := q) hk hn h1 (show s < 4096 by omega) hh1 hh3 hq (Or.inl rfl) hce (show 5000 ≤ N by omega) _ [] [] (-1) b1 N q1 (by trivial) (by simp) hcn (zgf2_B (zgf2_of q2) h3) (by omega) (by simpa using hklen) (fun z => Or.inl ⟨rfl, rfl⟩)
    rw [List.nil_append] at r0 r1
    rw [show nI ([] : List (List Nat)).length = (0 : Int32) from rfl] at r0
    have hne : ¬ nI q = -1 := nI_nneg (by omega)
    have r1 := r1 rfl
    rw [r0, z_sbind]
    simp only [if_neg hne]
    have hinv := zInv_cov hI fA (zgf2_of (zgf_tr q2 r2))
    by_cases q0 : q = 0
    · subst q0
      rw [if_pos (show nI 0 = (0 : Int32) from rfl)]
      have e9 : zht 0 ((zka (List.range' 0 (ls k).length) h).filter (zok (fun x => (ls k).getD x 0) s)) (gI a3 20) := by
        rcases v1.2.2 with ⟨z1, z2⟩ | ⟨c, T, z1, -, -, z2, -⟩
        · exact Or.inl ⟨z1, z2⟩
        · exact Or.inr ⟨c, T, z1, z2⟩
      rw [zht_eq e9 r1]
      exact ⟨_, _, _, rfl, rfl, hinv⟩
    · rw [if_neg (fun z => q0 ((nI_eq0 (by omega)).mp z))]
      obtain ⟨v5, f1, f2⟩ := f0_first v1 (show 0 < q by omega) hq
      rw [f1, z_sbind, zht_eq f2 r1]
      exact ⟨_, _, _, rfl, rfl, hinv⟩
