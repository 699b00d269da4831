/-! likely -/
theorem i64_pos {x : Int64} : (x ≤ 0) ↔ ¬ 0 < x.toInt := by
  rw [Int64.le_iff_toInt_le, show (0 : Int64).toInt = 0 from rfl]; omega
theorem f4_poss_loop {a : xT} {len : Nat} (h : gI a 4 = nI len) (hl : len ≤ 64) : ∀ r i acc fuel, i + r = len → r < fuel → f_X4_possible_L4 a fuel (nI acc) (nI i) = some (nI (acc + zfl (fun j => decide (0 < (gB a 5 j).toInt)) i r)) := by
  intro r
  induction r with
  | zero =>
    intro i acc fuel hi hf
    obtain ⟨fu, rfl⟩ : ∃ fu, fuel = fu + 1 := ⟨fuel - 1, by omega⟩
    rw [f_X4_possible_L4, h, if_pos (nI_le (by omega) (by omega)), zfl_0, Nat.add_zero]
  | succ r ih =>
    intro i acc fuel hi hf
    obtain ⟨fu, rfl⟩ : ∃ fu, fuel = fu + 1 := ⟨fuel - 1, by omega⟩
    rw [f_X4_possible_L4, h, if_neg (nI_ge (by omega) (by omega)), if_pos (z_xin (by omega) (by decide)), nI_clamp (by omega), nI_1, nI_1, zfl_s]
    by_cases c : 0 < (gB a 5 i).toInt
    · rw [if_neg (fun z => i64_pos.mp z c), ih (i + 1) (acc + 1) fu (by omega) (by omega), if_pos (by simp [c])]
      congr 2; omega
    · rw [if_pos (i64_pos.mpr c), ih (i + 1) acc fu (by omega) (by omega), if_neg (by simp [c])]
      congr 2; omega
theorem f4_ahead_loop {a : xT} {len k : Nat} (h : gI a 4 = nI len) (hl : len ≤ 64) (hk : k < len) : ∀ r i acc fuel, i + r = len → r < fuel → f_X4_ahead_L4 (nI k) a fuel (nI acc) (nI i) = some (nI (acc + zfl (fun j => zbf (gB a 5) j k) i r)) := by
  have hxk := z_xin (k := k) (n := 64) (by omega) (by decide)
  intro r
  induction r with
  | zero =>
    intro i acc fuel hi hf
    obtain ⟨fu, rfl⟩ : ∃ fu, fuel = fu + 1 := ⟨fuel - 1, by omega⟩
    rw [f_X4_ahead_L4, h, if_pos (nI_le (by omega) (by omega)), zfl_0, Nat.add_zero]
  | succ r ih =>
    intro i acc fuel hi hf
    obtain ⟨fu, rfl⟩ : ∃ fu, fuel = fu + 1 := ⟨fuel - 1, by omega⟩
    have hxi := z_xin (k := i) (n := 64) (by omega) (by decide)
    rw [f_X4_ahead_L4, h, if_neg (nI_ge (by omega) (by omega))]
    simp only [if_pos hxi, if_pos hxk]
    rw [nI_clamp (n := i) (by omega), nI_clamp (n := k) (by omega), nI_1, nI_1, zfl_s, ih (i + 1) (acc + 1) fu (by omega) (by omega), ih (i + 1) acc fu (by omega) (by omega)]
    by_cases c1 : (gB a 5 k).toInt < (gB a 5 i).toInt
    · rw [if_pos (Int64.lt_iff_toInt_lt.mpr c1), if_pos (zbf_iff.mpr (Or.inl c1))]
      congr 2; omega
    · rw [if_neg (fun z => c1 (Int64.lt_iff_toInt_lt.mp z))]
      by_cases c2 : gB a 5 i = gB a 5 k
      · rw [if_pos c2]
        have c3 : (gB a 5 i).toInt = (gB a 5 k).toInt := by rw [c2]
        by_cases c4 : k ≤ i
        · rw [if_pos (nI_le c4 (by omega)), if_neg (fun z => by rw [zbf_iff] at z; omega)]
          congr 2; omega
        · rw [if_neg (nI_ge (by omega) (by omega)), if_pos (zbf_iff.mpr (Or.inr ⟨c3, by omega⟩))]
          congr 2; omega
      · rw [if_neg c2, if_neg (fun z => by
          rw [zbf_iff] at z
          rcases z with z | z
          · exact c1 z
          · exact c2 (Int64.toInt_inj.mp z.1))]
        congr 2; omega
theorem f4_ahead {a : xT} {len k N : Nat} (h : gI a 4 = nI len) (hl : len ≤ 64) (hk : k < len) (hN : 70 ≤ N) : f_X4_ahead N (nI k) a = some (nI (zrk (gB a 5) len k)) := by
  have := f4_ahead_loop h hl hk len 0 0 N (by omega) (by omega)
  rw [show nI 0 = (0 : Int32) from rfl, Nat.zero_add] at this
  unfold f_X4_ahead
  rw [this]
  rfl
theorem f4_rank_loop {a : xT} {len N : Nat} (v : Int32) (h : gI a 4 = nI len) (hl : len ≤ 64) (hN : 70 ≤ N) : ∀ r i fuel, i + r = len → r < fuel → (f_X4_ranked_L2 N v a fuel (nI i) = some (.inl ()) ∧ ∀ k, i ≤ k → k < len → 0 < (gB a 5 k).toInt → nI (zrk (gB a 5) len k) ≠ v) ∨ ∃ k, k < len ∧ 0 < (gB a 5 k).toInt ∧ nI (zrk (gB a 5) len k) = v ∧ f_X4_ranked_L2 N v a fuel (nI i) = some (.inr (nI k)) := by
  intro r
  induction r with
  | zero =>
    intro i fuel hi hf
    obtain ⟨fu, rfl⟩ : ∃ fu, fuel = fu + 1 := ⟨fuel - 1, by omega⟩
    left
    refine ⟨?_, fun k h1 h2 => by omega⟩
    rw [f_X4_ranked_L2, h, if_pos (nI_le (by omega) (by omega))]
  | succ r ih =>
    intro i fuel hi hf
    obtain ⟨fu, rfl⟩ : ∃ fu, fuel = fu + 1 := ⟨fuel - 1, by omega⟩
    rw [f_X4_ranked_L2, h, if_neg (nI_ge (by omega) (by omega)), if_pos (z_xin (by omega) (by decide)), nI_clamp (by omega), nI_1, f4_ahead h hl (by omega) hN, z_sbind]
    by_cases c : 0 < (gB a 5 i).toInt
    · rw [if_neg (fun z => i64_pos.mp z c)]
      by_cases c2 : nI (zrk (gB a 5) len i) = v
      · rw [if_pos c2]
        exact Or.inr ⟨i, by omega, c, c2, rfl⟩
      · rw [if_neg c2]
        rcases ih (i + 1) fu (by omega) (by omega) with ⟨z1, z2⟩ | z
        · refine Or.inl ⟨z1, fun k h1 h2 h3 => ?_⟩
          by_cases e : k = i
          · rw [e]; exact c2
          · exact z2 k (by omega) h2 h3
        · exact Or.inr z
    · rw [if_pos (i64_pos.mpr c)]
      rcases ih (i + 1) fu (by omega) (by omega) with ⟨z1, z2⟩ | z
      · refine Or.inl ⟨z1, fun k h1 h2 h3 => ?_⟩
        by_cases e : k = i
        · subst e; exact absurd h3 c
        · exact z2 k (by omega) h2 h3
      · exact Or.inr z
theorem z_weigh {n k N : Nat} {l : List Nat} (v2 : Int32) (hn : n ≤ 12) (hw : zlw n l) (hk : k < 6) (hN : 5000 ≤ N) : ∀ r i acc a b f1 f2, gI a 4 = nI l.length → zlA a k l → zlB b k l → gI b 0 = nI n → zlo a b n → (∀ j, j < i → gB a 5 j = gB b 58 j) → i + r = l.length → r < f1 → r < f2 → ∃ a2 b2, f_X4_weigh_L10 N k f1 (nI i) a = some a2 ∧ f_X8_likely_L16 N (nI k) v2 f2 (nI acc) (nI i) b = some (nI (acc + zfl (fun j => decide (0 < (gB a2 5 j).toInt)) i r), b2) ∧ (∀ j, j < l.length → gB a2 5 j = gB b2 58 j) ∧ (∀ j, j < i → gB a2 5 j = gB a 5 j) ∧ (∀ j, gI a2 j = gI a j) ∧ (∀ c j, gA a2 c j = gA a c j) ∧ (∀ c j, c ≠ 5 → gB a2 c j = gB a c j) ∧ (∀ j, gI b2 j = gI b j) ∧ ∀ c j, gA b2 c j = gA b c j := by
  have hx6 := z_xin (n := 6) hk (by decide)
  have hl := hw.1
  intro r
  induction r with
  | zero =>
    intro i acc a b f1 f2 h4 hA hB h0 hlo he hi hf1 hf2
    obtain ⟨fu, rfl⟩ : ∃ fu, f1 = fu + 1 := ⟨f1 - 1, by omega⟩
    obtain ⟨gu, rfl⟩ : ∃ gu, f2 = gu + 1 := ⟨f2 - 1, by omega⟩
    refine ⟨a, b, ?_, ?_, fun j hj => he j (by omega), fun _ _ => rfl, fun _ => rfl, fun _ _ => rfl, fun _ _ _ => rfl, fun _ => rfl, fun _ _ => rfl⟩
    · rw [f_X4_weigh_L10, h4, if_pos (nI_le (by omega) (by omega))]
    · rw [f_X8_likely_L16, if_pos hx6, nI_clamp (by omega), hB.1, if_pos (nI_le (by omega) (by omega)), zfl_0, Nat.add_zero]
  | succ r ih =>
    intro i acc a b f1 f2 h4 hA hB h0 hlo he hi hf1 hf2
    obtain ⟨fu, rfl⟩ : ∃ fu, f1 = fu + 1 := ⟨f1 - 1, by omega⟩
    obtain ⟨gu, rfl⟩ : ∃ gu, f2 = gu + 1 := ⟨f2 - 1, by omega⟩
    have hil : i < l.length := by omega
    have hx64 := z_xin (k := i) (n := 64) (by omega) (by decide)
    have hm := zlw_lt hw hn _ (z_get hil)
    obtain ⟨z, z1, z2⟩ := z_chance (N := N) h0 hn hlo hm (by omega)
    rw [f_X4_weigh_L10, h4, if_neg (nI_ge (by omega) (by omega))]
    simp only [if_pos hx64]
    rw [nI_clamp (n := i) (by omega), hA.2.1 i hil, z1, z_sbind]
    rw [f_X8_likely_L16, if_pos hx6, nI_clamp (n := k) (by omega), hB.1, if_neg (nI_ge (by omega) (by omega)), f8_at hB hk hil hl, z_sbind, z2, z_sbind]
    simp only [if_pos hx64]
    rw [nI_clamp (n := i) (by omega), updL_at, if_pos rfl, nI_1, nI_1]
    have he2 : ∀ j, j < i + 1 → gB (sB a 5 (vp_updL (gB a 5) i z)) 5 j = gB (sB b 58 (vp_updL (gB b 58) i z)) 58 j := fun j hj => by
      rw [gB_sB, if_pos rfl, gB_sB, if_pos rfl, updL_at, updL_at]
      by_cases e : j = i
      · rw [if_pos e, if_pos e]
      · rw [if_neg e, if_neg e]; exact he j (by omega)
    have hA2 : zlA (sB a 5 (vp_updL (gB a 5) i z)) k l := zlA_keep hA rfl (fun _ => rfl) (fun j => by rw [gB_sB, if_neg (by omega)])
    have hstep : ∀ q : Nat, q = acc + (if 0 < z.toInt then 1 else 0) → ∃ a2 b2, f_X4_weigh_L10 N k fu (nI (i + 1)) (sB a 5 (vp_updL (gB a 5) i z)) = some a2 ∧ f_X8_likely_L16 N (nI k) v2 gu (nI q) (nI (i + 1)) (sB b 58 (vp_updL (gB b 58) i z)) = some (nI (acc + zfl (fun j => decide (0 < (gB a2 5 j).toInt)) i (r + 1)), b2) ∧ (∀ j, j < l.length → gB a2 5 j = gB b2 58 j) ∧ (∀ j, j < i → gB a2 5 j = gB a 5 j) ∧ (∀ j, gI a2 j = gI a j) ∧ (∀ c j, gA a2 c j = gA a c j) ∧ (∀ c j, c ≠ 5 → gB a2 c j = gB a c j) ∧ (∀ j, gI b2 j = gI b j) ∧ ∀ c j, gA b2 c j = gA b c j := by
      intro q hq
      obtain ⟨a2, b2, w1, w2, w3, w4, w5, w6, w7, w8, w9⟩ := ih (i + 1) q (sB a 5 (vp_updL (gB a 5) i z)) (sB b 58 (vp_updL (gB b 58) i z)) fu gu h4 hA2 (zlB_keep hB rfl (fun _ => rfl)) h0 (zlo_keep hlo (fun _ => rfl) (fun _ => rfl)) he2 (by omega) (by omega) (by omega)
      have e5 : gB a2 5 i = z := by
        rw [w4 i (by omega), gB_sB, if_pos rfl, updL_at, if_pos rfl]
      refine ⟨a2, b2, w1, ?_, w3, fun j hj => ?_, w5, w6, fun c j hc => ?_, w8, w9⟩
      · rw [w2, zfl_s, e5, hq]
        congr 3
        by_cases c : 0 < z.toInt
        · simp only [c, decide_true, if_true]; omega
        · simp only [c, decide_false, if_false]; simp
      · rw [w4 j (by omega), gB_sB, if_pos rfl, updL_at, if_neg (by omega)]
      · rw [w7 c j hc, gB_sB, if_neg hc]
    by_cases c : 0 < z.toInt
    · rw [if_neg (fun q => i64_pos.mp q c)]
      exact hstep (acc + 1) (by rw [if_pos c])
    · rw [if_pos (i64_pos.mpr c), show nI acc + 0 = nI acc from Int32.add_zero _]
      exact hstep acc (by rw [if_neg c, Nat.add_zero])
theorem f8_max_loop {k len : Nat} {b : xT} (v2 v5 : Int32) (hk : k < 6) (h : gA b 45 k = nI len) (hl : len ≤ 64) : ∀ r i q fuel, i + r = len → q < i → (∀ y, y < i → y ≠ q → zbf (gB b 58) q y = true) → r < fuel → ∃ q2, q2 < len ∧ f_X8_likely_L113 (nI k) v2 v5 b fuel (nI q) (nI i) = some (nI q2) ∧ ∀ y, y < len → y ≠ q2 → zbf (gB b 58) q2 y = true := by
  have hx6 := z_xin (n := 6) hk (by decide)
  intro r
  induction r with
  | zero =>
    intro i q fuel hi hq hm hf
    obtain ⟨fu, rfl⟩ : ∃ fu, fuel = fu + 1 := ⟨fuel - 1, by omega⟩
    refine ⟨q, by omega, ?_, fun y hy => hm y (by omega)⟩
    rw [f_X8_likely_L113, if_pos hx6, nI_clamp (by omega), h, if_pos (nI_le (by omega) (by omega))]
  | succ r ih =>
    intro i q fuel hi hq hm hf
    obtain ⟨fu, rfl⟩ : ∃ fu, fuel = fu + 1 := ⟨fuel - 1, by omega⟩
    rw [f_X8_likely_L113, if_pos hx6, nI_clamp (n := k) (by omega), h, if_neg (nI_ge (by omega) (by omega)), if_pos (z_xin (by omega) (by decide)), if_pos (z_xin (by omega) (by decide)), nI_clamp (n := i) (by omega), nI_clamp (n := q) (by omega), nI_1]
    by_cases c : (gB b 58 i).toInt ≤ (gB b 58 q).toInt
    · rw [if_pos (Int64.le_iff_toInt_le.mpr c)]
      refine ih (i + 1) q fu (by omega) (by omega) (fun y hy hyq => ?_) (by omega)
      by_cases e : y = i
      · subst e; rw [zbf_iff]; omega
      · exact hm y (by omega) hyq
    · rw [if_neg (fun z => c (Int64.le_iff_toInt_le.mp z))]
      refine ih (i + 1) i fu (by omega) (by omega) (fun y hy hyi => ?_) (by omega)
      rw [zbf_iff]
      by_cases e : y = q
      · subst e; omega
      · have := zbf_iff.mp (hm y (by omega) e); omega
theorem zbf_ext {c c2 : Nat → Int64} {j k : Nat} (h1 : c j = c2 j) (h2 : c k = c2 k) : zbf c j k = zbf c2 j k := by
  unfold zbf; rw [h1, h2]
theorem f8_tell_loop {k len N i : Nat} {c : Nat → Int64} (hk : k < 6) (hl : len ≤ 64) (hi : i < zps c len) (hN : 5000 ≤ N) : ∀ r t L v4 b fuel, t + r = i → L.length = t → ztd c len L → gA b 45 k = nI len → (∀ j, j < len → gB b 58 j = zc2 c L j) → r + 1 < fuel → ∃ q b2, q < len ∧ 0 < (c q).toInt ∧ zrk c len q = i ∧ f_X8_likely_L101 N (nI k) (nI i) fuel v4 (nI t) b = some (nI q, b2) ∧ (∀ j, gI b2 j = gI b j) ∧ ∀ c j, gA b2 c j = gA b c j := by
  have hpl : zps c len ≤ len := zfl_le _ _ _
  intro r
  induction r with
  | zero =>
    intro t L v4 b fuel ht hL htd h1 h2 hf
    obtain ⟨fu, rfl⟩ : ∃ fu, fuel = fu + 1 + 1 := ⟨fuel - 2, by omega⟩
    obtain ⟨q, hq, e1, e2⟩ := f8_max_loop (nI i) (nI t) hk h1 hl (len - 1) 1 0 N (by omega) (by decide) (fun y hy hy2 => by omega) (by omega)
    obtain ⟨s1, s2, s3, s4⟩ := ztd_step htd (by omega) hq (fun y hy hyq => by rw [← zbf_ext (h2 q hq) (h2 y hy)]; exact e2 y hy hyq)
    rw [show nI 0 = (0 : Int32) from rfl, show nI 1 = (1 : Int32) from rfl] at e1
    rw [f_X8_likely_L101, if_neg (nI_nlt (by omega) (by omega)), e1, z_sbind, if_pos (nI_le (by omega) (by omega)), if_pos (z_xin (by omega) (by decide)), if_pos (z_xin (by omega) (by decide)), nI_1, f_X8_likely_L101, if_pos (nI_lt (by omega) (by omega))]
    exact ⟨q, _, hq, s2, by omega, rfl, fun _ => rfl, fun _ _ => rfl⟩
  | succ r ih =>
    intro t L v4 b fuel ht hL htd h1 h2 hf
    obtain ⟨fu, rfl⟩ : ∃ fu, fuel = fu + 1 := ⟨fuel - 1, by omega⟩
    obtain ⟨q, hq, e1, e2⟩ := f8_max_loop (nI i) (nI t) hk h1 hl (len - 1) 1 0 N (by omega) (by decide) (fun y hy hy2 => by omega) (by omega)
    obtain ⟨s1, s2, s3, s4⟩ := ztd_step htd (by omega) hq (fun y hy hyq => by rw [← zbf_ext (h2 q hq) (h2 y hy)]; exact e2 y hy hyq)
    rw [show nI 0 = (0 : Int32) from rfl, show nI 1 = (1 : Int32) from rfl] at e1
    rw [f_X8_likely_L101, if_neg (nI_nlt (by omega) (by omega)), e1, z_sbind, if_neg (nI_ge (by omega) (by omega)), if_pos (z_xin (by omega) (by decide)), nI_1, nI_clamp (by omega)]
    obtain ⟨q2, b2, w1, w2, w3, w4, w5, w6⟩ := ih (t + 1) (L ++ [q]) (nI q) (sB b 58 (vp_updL (gB b 58) q 0)) fu (by omega) (by simp [hL]) s4 h1 (fun j hj => by
      rw [gB_sB, if_pos rfl, updL_at]
      unfold zc2
      by_cases e : j = q
      · rw [if_pos e, if_pos (by rw [e]; simp)]
      · rw [if_neg e, h2 j hj]
        unfold zc2
        have : (j ∈ L ++ [q]) ↔ j ∈ L := by simp [e]
        simp only [this]) (by omega)
    exact ⟨q2, b2, w1, w2, w3, w4, w5, w6⟩
theorem p_likely {N : Nat} (hN : 5000 ≤ N) : xP_likely N zInv := by
  intro y1 y2 a b hI
  obtain ⟨n, kd, t, d, hb, ha, hB, ⟨ls, hls⟩, hlo, htx, hf, hca⟩ := id hI
  have hn := hb.2.1
  unfold f_X7_likely f_X8_likely f_X4_weigh
  rcases z_isL y1 with ⟨e1, e2⟩ | ⟨k, hk, rfl, e1, e2⟩
  · rw [e1, e2]; exact ⟨_, _, _, rfl, rfl, hI⟩
  rw [e1, e2]
  obtain ⟨h1, h2, h3⟩ := hls k hk
  have hl := h1.1
  have hx6 := z_xin (n := 6) hk (by decide)
  simp only [z_sbind, if_neg z10, if_pos hx6]
  rw [nI_clamp (by omega), h2.1]
  obtain ⟨a2, b2, w1, w2, w3, w4, w5, w6, w7, w8, w9⟩ := z_weigh (N := N) y2 hn h1 hk hN (ls k).length 0 0 (sI a 4 (nI (ls k).length)) b N N rfl (zlA_keep h2 (by rw [gI_sI, if_neg (by omega)]) (fun _ => rfl) (fun _ => rfl)) h3 hB.1 (zlo_keep hlo (fun _ => rfl) (fun _ => rfl)) (fun j hj => by omega) (by omega) (by omega) (by omega)
  rw [show nI 0 = (0 : Int32) from rfl, Nat.zero_add] at w2
  rw [show nI 0 = (0 : Int32) from rfl] at w1
  rw [w1, w2]
  simp only [z_sbind]
  have hlen : gI a2 4 = nI (ls k).length := by rw [w5, gI_sI, if_pos rfl]
  have hps : zfl (fun j => decide (0 < (gB a2 5 j).toInt)) 0 (ls k).length = zps (gB a2 5) (ls k).length := rfl
  have hpl : zps (gB a2 5) (ls k).length ≤ (ls k).length := zfl_le _ _ _
  rw [hps]
  have hinv : ∀ b3 : xT, (∀ j, gI b3 j = gI b2 j) → (∀ c j, gA b3 c j = gA b2 c j) → zInv a2 b3 := fun b3 g1 g2 => by
    refine ⟨n, kd, t, d, hb, zis_keep ha (fun j hj => by rw [w5, gI_sI, if_neg (by omega)]), zis_keep hB (fun j _ => by rw [g1, w8]), ?_, ?_, ?_, ?_, ?_⟩
    · exact zls_keep ⟨ls, hls⟩ (fun j hj => by rw [w5, gI_sI, if_neg (by omega)]) (fun j i hj => by rw [w6]; rfl) (fun j i hj => by rw [w7 _ _ (by omega)]; rfl) (fun j => by rw [g2, w9]) (fun j => by rw [g2, w9])
    · exact zlo_keep hlo (fun i => by rw [w6]; rfl) (fun i => by rw [g2, w9])
    · exact ztx_keep htx (by rw [w5, gI_sI, if_neg (by omega)]) (by rw [g1, w8]) (fun i => by rw [w6]; rfl) (fun i => by rw [g2, w9])
    · rw [w5, gI_sI, if_neg (by omega), g1, w8]; exact hf
    · exact zca_keep hca (by rw [w5, gI_sI, if_neg (by omega)]) (by rw [w5, gI_sI, if_neg (by omega)]) (by rw [w5, gI_sI, if_neg (by omega)]) (fun i => by rw [w6]; rfl)
  have wi := f8_in y2 0 (nI (zps (gB a2 5) (ls k).length) - 1)
  rw [show (0 : Int32).toInt64 = 0 from rfl] at wi
  rw [wi]
  simp only [z_sbind]
  by_cases c1 : y2 = -1
  · subst c1
    simp only [if_pos rfl]
    rw [if_pos (Or.inl (by decide)), if_pos rfl]
    have := f4_poss_loop hlen hl (ls k).length 0 0 N (by omega) (by omega)
    rw [show nI 0 = (0 : Int32) from rfl, Nat.zero_add, hps] at this
    unfold f_X4_possible
    rw [this]
    exact ⟨_, _, _, rfl, rfl, hinv b2 (fun _ => rfl) (fun _ _ => rfl)⟩
  · simp only [if_neg c1]
    unfold f_X4_ranked
    have hrl := f4_rank_loop (N := N) y2 hlen hl (by omega) (ls k).length 0 N (by omega) (by omega)
    rw [show nI 0 = (0 : Int32) from rfl] at hrl
    rcases z_idx y2 (len := zps (gB a2 5) (ls k).length) (by omega) with c | ⟨c, i, hi, rfl⟩
    · rw [if_pos c]
      rcases hrl with ⟨z1, -⟩ | ⟨q, q1, q2, q3, q4⟩
      · rw [z1]
        exact ⟨_, _, _, rfl, rfl, hinv b2 (fun _ => rfl) (fun _ _ => rfl)⟩
      · exfalso
        have hr := zrk_ps q1 q2
        rw [← q3] at c
        have s1 : nI (zps (gB a2 5) (ls k).length) - 1 = nI (zps (gB a2 5) (ls k).length - 1) := pk_sub (b := 1) (by omega)
        rw [s1] at c
        rcases c with c | c
        · exact nI_pos (by omega) c
        · exact nI_nlt (by omega) (by omega) c
    · rw [if_neg c]
      simp only [if_neg z10]
      obtain ⟨q, b3, u1, u2, u3, u4, u5, u6⟩ := f8_tell_loop (c := gB a2 5) hk hl hi hN i 0 [] (-1) b2 N (by omega) rfl ⟨List.nodup_nil, fun x hx => absurd hx List.not_mem_nil, fun x hx => absurd hx List.not_mem_nil⟩ (by rw [w9]; exact h3.1) (fun j hj => by rw [← w3 j hj]; unfold zc2; simp) (by omega)
      rw [show nI 0 = (0 : Int32) from rfl] at u4
      rw [u4]
      simp only [z_sbind]
      rcases hrl with ⟨-, z2⟩ | ⟨q', q1, q2, q3, q4⟩
      · exact absurd (by rw [u3]) (z2 q (by omega) u1 u2)
      · have hr := zrk_ps q1 q2
        have e3 : zrk (gB a2 5) (ls k).length q' = i := (nI_eq (by omega) (by omega)).mp q3
        have e4 : q' = q := zrk_inj q1 u1 (by rw [e3, u3])
        subst e4
        rw [q4]
        exact ⟨_, _, _, rfl, rfl, hinv b3 u5 u6⟩
