/-! read: the marks that suit -/
theorem zInv_56 {a b b2 : xT} (h : zInv a b) (g : zf56 b b2) : zInv a b2 := by
  obtain ⟨n, kd, t, d, hb, ha, hB, ⟨ls, hls⟩, hlo, htx, hf, hca⟩ := h
  refine ⟨n, kd, t, d, hb, ha, zis_keep hB (fun j _ => g.1 j), ⟨ls, fun k hk => ⟨(hls k hk).1, (hls k hk).2.1, zf56_B g (hls k hk).2.2⟩⟩, zlo_keep hlo (fun i => rfl) (fun i => g.2 _ _ (by decide)), ztx_keep htx rfl (g.1 _) (fun i => rfl) (fun i => g.2 _ _ (by decide)), ?_, hca⟩
  rw [g.1 15]; exact hf
theorem zf6_cs {a a2 : xT} {CS : List (Nat × Nat)} (f : zf6 a a2) (h : zcs a CS) : zcs a2 CS := ⟨(f.1 9 (by decide)).trans h.1, h.2.1, fun i hi => by rw [f.2.1 9 i (by decide), f.2.1 10 i (by decide), f.2.1 11 i (by decide)]; exact h.2.2 i hi⟩
theorem z_rg {m r : Nat} (g : Nat → Bool) : (List.range' m (r + 1)).filter g = (if g m then [m] else []) ++ (List.range' (m + 1) r).filter g := by
  rw [List.range'_succ, List.filter_cons]
  cases g m <;> rfl
theorem f7_read_loop {a0 : xT} {n N : Nat} {ls : Nat → List Nat} {CS : List (Nat × Nat)} {g : Nat → Bool} (v1 : Int32) (h : gI a0 0 = nI n) (hn : n ≤ 12) (hls : ∀ j, j < 6 → zlA a0 j (ls j)) (hcs : zcs a0 CS) (hv : ∀ i ∈ CS, zvd i) (hx : ∀ m, zx (zlf n ls m) CS [] = some [g m]) (hN : 200 ≤ N) : ∀ r m l a fuel, m + r = 2 ^ n → zf6 a0 a → zlA a 6 l → l.length ≤ 64 → r < fuel → ((l ++ (List.range' m r).filter g).length ≤ 64 ∧ ∃ a2, f_X7_read_L60 N v1 fuel (nI m) a = some (.inl a2) ∧ zlA a2 6 (l ++ (List.range' m r).filter g) ∧ zf6 a0 a2) ∨ (¬ (l ++ (List.range' m r).filter g).length ≤ 64 ∧ ∃ a2, f_X7_read_L60 N v1 fuel (nI m) a = some (.inr a2) ∧ zf6 a0 a2) := by
  intro r
  have hp := z_pow n (by omega)
  induction r with
  | zero =>
    intro m l a fuel hm f hA hl hf
    obtain ⟨fu, rfl⟩ : ∃ fu, fuel = fu + 1 := ⟨fuel - 1, by omega⟩
    left
    rw [f_X7_read_L60, f1_all ((f.1 0 (by decide)).trans h) hn, z_sbind, if_pos (nI_lt (by omega) (by omega))]
    have e : l ++ (List.range' m 0).filter g = l := List.append_nil l
    rw [e]
    exact ⟨hl, a, rfl, hA, f⟩
  | succ r ih =>
    intro m l a fuel hm f hA hl hf
    obtain ⟨fu, rfl⟩ : ∃ fu, fuel = fu + 1 := ⟨fuel - 1, by omega⟩
    rw [f_X7_read_L60, f1_all ((f.1 0 (by decide)).trans h) hn, z_sbind, if_neg (nI_nlt (a := 2 ^ n - 1) (b := m) (by omega) (by omega)), f5_suits ((f.1 0 (by decide)).trans h) hn (fun j hj => zf6_A hj f (hls j hj)) (by omega) (zf6_cs f hcs) hv (hx m) hN, z_sbind, z_rg, nI_1]
    cases hg : g m with
    | false =>
      rw [if_pos (show bI false = 0 from rfl), if_neg (show ¬ false = true by decide), List.nil_append]
      exact ih (m + 1) l a fu (by omega) f hA hl (by omega)
    | true =>
      rw [if_neg (show ¬ bI true = 0 by decide), if_pos rfl, ← List.append_assoc]
      by_cases c : l.length = 64
      · right
        rw [f3_full (nI m) hA c, z_sbind]
        refine ⟨fun z => ?_, a, by rw [if_pos rfl], f⟩
        rw [List.length_append, List.length_append, List.length_singleton] at z
        omega
      · obtain ⟨a2, s1, s2, s3, s4, s5⟩ := f3_append (k := 6) (m := m) hA (by omega) (by omega) (by decide)
        rw [s1, z_sbind]
        simp only [if_neg z10]
        exact ih (m + 1) (l ++ [m]) a2 fu (by omega) (zf6_tr f ⟨fun j hj => s3 j hj, fun c j hc => s4 c j hc, fun c j hc => s5 c j hc⟩) s2 (by rw [List.length_append, List.length_singleton]; omega) (by omega)
def zfz (b b2 : xT) : Prop := (∀ j, j ≠ 11 → gI b2 j = gI b j) ∧ ∀ c j, c ≠ 51 → c ≠ 56 → gA b2 c j = gA b c j
theorem zfz_tr {a b c : xT} (h : zfz a b) (g : zfz b c) : zfz a c := ⟨fun j hj => (g.1 j hj).trans (h.1 j hj), fun x j h1 h2 => (g.2 x j h1 h2).trans (h.2 x j h1 h2)⟩
theorem zfz_rs {b b2 : xT} {RS : List (Nat × Nat)} (f : zfz b b2) (h : zrs b RS) : zrs b2 RS := ⟨(f.1 20 (by decide)).trans h.1, fun i hi => by rw [f.2 53 i (by decide) (by decide), f.2 54 i (by decide) (by decide)]; exact h.2 i hi⟩
theorem zfz_B {b b2 : xT} {k : Nat} {l : List Nat} (f : zfz b b2) (h : zlB b k l) : zlB b2 k l := zlB_keep h (f.2 _ _ (by decide) (by decide)) (fun i => f.2 _ _ (by decide) (by decide))
theorem f8_read_loop {b0 : xT} {n N : Nat} {ls : Nat → List Nat} {RS : List (Nat × Nat)} {g : Nat → Bool} (v1 : Int32) (h : gI b0 0 = nI n) (hn : n ≤ 12) (hls : ∀ j, j < 6 → zlw n (ls j) ∧ zlB b0 j (ls j)) (hrs : zrs b0 RS) (hlen : RS.length ≤ 130) (hv : ∀ i ∈ RS, zvd i) (hx : ∀ m, zx (zlf n ls m) RS [] = some [g m]) (hN : 200 ≤ N) : ∀ r m l b fuel, m + r = 2 ^ n → zfz b0 b → zrow b l → l.length ≤ 65 → r < fuel → ∃ b2, f_X8_read_L116 N v1 fuel (nI m) b = some b2 ∧ zfz b0 b2 ∧ ((l ++ (List.range' m r).filter g).length ≤ 64 → zrow b2 (l ++ (List.range' m r).filter g)) ∧ (¬ (l ++ (List.range' m r).filter g).length ≤ 64 → gI b2 11 = nI 65) := by
  intro r
  have hp := z_pow n (by omega)
  have e1n : (1 : Int32) <<< (nI n &&& 31) = nI (2 ^ n) := by
    have := zI_shl (m := 1) (k := n) (by omega) (by omega)
    rw [Nat.one_shiftLeft] at this
    exact this
  induction r with
  | zero =>
    intro m l b fuel hm f hr hl hf
    obtain ⟨fu, rfl⟩ : ∃ fu, fuel = fu + 1 := ⟨fuel - 1, by omega⟩
    rw [f_X8_read_L116, (f.1 0 (by decide)).trans h, e1n, if_pos (nI_le (by omega) (by omega))]
    have e : l ++ (List.range' m 0).filter g = l := List.append_nil l
    rw [e]
    exact ⟨b, rfl, f, fun _ => hr, fun z => by rw [hr.1, show l.length = 65 by omega]⟩
  | succ r ih =>
    intro m l b fuel hm f hr hl hf
    obtain ⟨fu, rfl⟩ : ∃ fu, fuel = fu + 1 := ⟨fuel - 1, by omega⟩
    rw [f_X8_read_L116, (f.1 0 (by decide)).trans h, e1n, if_neg (nI_ge (by omega) (by omega)), hr.1, nI_1]
    by_cases c : l.length = 65
    · rw [c, if_pos (by decide)]
      obtain ⟨b2, q1, q2, q3, q4⟩ := ih (m + 1) l b fu (by omega) f hr hl (by omega)
      refine ⟨b2, q1, q2, fun z => ?_, fun z => q4 (fun y => ?_)⟩
      · rw [List.length_append] at z; omega
      · rw [List.length_append] at y; omega
    · obtain ⟨b2, q1, q2⟩ := f8_holds (b := b) (m := m) (N := N) ((f.1 0 (by decide)).trans h) hn (fun j hj => ⟨(hls j hj).1, zfz_B f (hls j hj).2⟩) (by omega) (zfz_rs f hrs) hlen hv (hx m) hN
      have f2 : zfz b0 b2 := zfz_tr f ⟨fun j _ => q2.1 j, fun c j _ h2 => q2.2 c j h2⟩
      have hr2 : zrow b2 l := ⟨(q2.1 11).trans hr.1, fun i hi => (q2.2 51 i (by decide)).trans (hr.2 i hi)⟩
      rw [if_neg (show ¬ (64 : Int32) < nI l.length from nI_nlt (a := 64) (b := l.length) (by omega) (by omega)), q1, z_sbind, z_rg]
      cases hg : g m with
      | false =>
        rw [if_pos (show bI false = 0 from rfl), if_neg (show ¬ false = true by decide), List.nil_append]
        exact ih (m + 1) l b2 fu (by omega) f2 hr2 hl (by omega)
      | true =>
        rw [if_neg (show ¬ bI true = 0 by decide), if_pos rfl, ← List.append_assoc]
        simp only [hr2.1, nI_1, nI_clamp (show l.length < 2 ^ 31 by omega), if_pos (z_xin (show l.length < 4096 by omega) (by decide))]
        refine ih (m + 1) (l ++ [m]) _ fu (by omega) (zfz_tr f2 ⟨fun j hj => by rw [gI_sI, if_neg hj]; rfl, fun c j h1 h2 => by rw [gA_sI, gA_sA, if_neg h1]⟩) ⟨by rw [gI_sI, if_pos rfl, List.length_append, List.length_singleton], fun i hi => ?_⟩ (by rw [List.length_append, List.length_singleton]; omega) (by omega)
        rw [List.length_append, List.length_singleton] at hi
        rw [gA_sI, gA_sA, if_pos rfl, upd_at]
        by_cases e : i = l.length
        · rw [if_pos e, e]; simp
        · rw [if_neg e, hr2.2 i (by omega), zgetD_app (by omega)]
theorem p_read {N : Nat} (hN : 5000 ≤ N) : xP_read N zInv := by
  intro y1 a b hI
  unfold f_X7_read f_X8_read
  rcases z_isL y1 with ⟨e1, e2⟩ | ⟨k, hk, rfl, e1, e2⟩
  · rw [e1, e2]; exact ⟨_, _, _, rfl, rfl, hI⟩
  rw [e1, e2]
  simp only [z_sbind, if_neg z10]
  rcases z_text (N := N) (nI k) hI hN with ⟨a2, b2, b3, CS, RS, t1, t2, t3, t4, hcs, hrs, hv1, hv2, hx, hlen, hI2⟩ | ⟨a2, b2, f, f1, f3, t1, t2, t3, hI2⟩
  · rw [t1, t3]
    simp only [z_sbind, if_pos t2, if_pos (show (0 : Int32) ≤ 0 by decide)]
    rw [t4, z_sbind]
    obtain ⟨n, kd, t, d, hb, ha, hB, ⟨ls, hls⟩, hlo, htx, hf, hca⟩ := id hI2
    have hp := z_pow n (by have := hb.2.1; omega)
    have hch : ∀ m, ∃ v, zx (zlf n ls m) RS [] = some [v] ∧ zx (zlf n ls m) CS [] = some [v] := fun m => hx _ (zlf_7 n ls m)
    obtain ⟨g, hg⟩ : ∃ g : Nat → Bool, ∀ m, zx (zlf n ls m) RS [] = some [g m] ∧ zx (zlf n ls m) CS [] = some [g m] := ⟨fun m => (hch m).choose, fun m => (hch m).choose_spec⟩
    obtain ⟨a4, w1, w2, w3, w4, w5⟩ := f3_wipe (k := 6) (N := N) (sI a2 5 0) (by omega)
    have hcs0 : zcs (sI a2 5 0) CS := ⟨by rw [gI_sI, if_neg (by decide)]; exact hcs.1, hcs.2⟩
    have f6 : zf6 (sI a2 5 0) a4 := ⟨fun j hj => by rw [w2, if_neg hj], fun c j _ => w3 c j, fun c j hc => w4 c j hc⟩
    have hA6 : zlA a4 6 [] := ⟨by rw [w2, if_pos rfl]; rfl, fun i hi => absurd hi (Nat.not_lt_zero i), fun m hm => by rw [w5 _ (by omega), zbit_zero]; rfl⟩
    have hC := f7_read_loop (N := N) (g := g) (nI k) ha.1 hb.2.1 (fun j hj => (hls j hj).2.1) hcs0 hv1 (fun m => (hg m).2) (by omega) (2 ^ n) 0 [] a4 N (by omega) f6 hA6 (by decide) (by omega)
    obtain ⟨b4, q1, q2, q3, q4⟩ := f8_read_loop (N := N) (g := g) (nI k) hB.1 hb.2.1 (fun j hj => ⟨(hls j hj).1, (hls j hj).2.2⟩) hrs hlen hv2 (fun m => (hg m).1) (by omega) (2 ^ n) 0 [] (sI b3 11 0) N (by omega) ⟨fun j hj => by rw [gI_sI, if_neg hj], fun c j _ _ => rfl⟩ ⟨by rw [gI_sI, if_pos rfl]; rfl, fun i hi => absurd hi (Nat.not_lt_zero i)⟩ (by decide) (by omega)
    have f56 : zf56 b3 (sA b3 56 (gA b4 56)) := zf56_s _ _
    have hI3 := zInv_56 hI2 f56
    have fr : zfr (sA b3 56 (gA b4 56)) b4 := ⟨fun j hj => q2.1 j hj, fun c j hc => by
      rw [gA_sA]
      by_cases e : c = 56
      · rw [if_pos e, e]
      · rw [if_neg e]; exact q2.2 c j hc e⟩
    have q1' : f_X8_read_L116 N (nI k) N 0 (sI b3 11 0) = some b4 := q1
    rw [w1, z_sbind, q1', z_sbind]
    rcases hC with ⟨hl, a5, c1, c2, c3⟩ | ⟨hl, a5, c1, c3⟩
    · have c1' : f_X7_read_L60 N (nI k) N 0 a4 = some (.inl a5) := c1
      have hrow := q3 hl
      rw [c1', z_sbind, if_pos (show gI b4 11 ≤ 64 by rw [hrow.1]; exact nI_le (b := 64) hl (by decide))]
      have hw : zlw n ([] ++ (List.range' 0 (2 ^ n)).filter g) := by
        refine ⟨hl, ?_, fun m hm => ?_⟩
        · rw [List.nil_append]
          exact List.Pairwise.filter _ List.nodup_range'
        · rw [List.nil_append] at hm
          have := List.mem_range'_1.mp (List.mem_filter.mp hm).1
          omega
      obtain ⟨r, a6, b6, z1, z2, z3⟩ := z_fin (N := N) (b := sA b3 56 (gA b4 56)) hb ha (zis_keep hB (fun j _ => rfl)) (fun j hj => ⟨(hls j hj).1, (hls j hj).2.1, zf56_B f56 (hls j hj).2.2⟩) (zlo_keep hlo (fun i => rfl) (fun i => f56.2 _ _ (by decide))) (ztx_keep htx rfl rfl (fun i => rfl) (fun i => f56.2 _ _ (by decide))) hf hca hk hw c2 c3 hrow fr hN
      refine ⟨r, a6, b6, ?_, ?_, z3⟩
      · show (f_X7_becomesFresh (nI k) a5).bind _ = _
        rw [z1]; rfl
      · rw [z2]; rfl
    · have c1' : f_X7_read_L60 N (nI k) N 0 a4 = some (.inr a5) := c1
      rw [c1', z_sbind, if_neg (show ¬ gI b4 11 ≤ 64 by rw [q4 hl]; decide)]
      exact ⟨_, a5, b4, rfl, rfl, zInv_fr hI3 c3 fr⟩
  · rw [t1, t3]
    simp only [z_sbind]
    rw [if_neg (fun z => by rw [t2, nI_eq0 (by omega)] at z; omega), if_neg (show ¬ nI f ≤ 0 from nI_ge (a := 0) (by omega) (by omega)), t2]
    exact ⟨_, _, _, rfl, rfl, hI2⟩
