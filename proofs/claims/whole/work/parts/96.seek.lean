/-! the class's most -/
theorem f2_with_loop {many : Nat} (w : Int32) (hm32 : many ≤ 32) : ∀ r m x fuel, m + r = many → r < fuel → ∃ y, f_X2_marksWith_L5 (nI many) w fuel x (nI m) = some y ∧ ∀ k, k < 64 → zbit y k = (zbit x k || (decide (m ≤ k) && (decide (k < many) && decide (w = -1 ∨ nI (zpc k) = w)))) := by
  intro r
  induction r with
  | zero =>
    intro m x fuel hm hf
    obtain ⟨fu, rfl⟩ : ∃ fu, fuel = fu + 1 := ⟨fuel - 1, by omega⟩
    refine ⟨x, ?_, fun k hk => ?_⟩
    · rw [f_X2_marksWith_L5, if_pos (nI_le (by omega) (by omega))]
    · by_cases c : m ≤ k
      · rw [decide_eq_false (show ¬ k < many by omega)]; simp
      · rw [decide_eq_false c]; simp
  | succ r ih =>
    intro m x fuel hm hf
    obtain ⟨fu, rfl⟩ : ∃ fu, fuel = fu + 1 := ⟨fuel - 1, by omega⟩
    have hsp : ∀ k, (decide (m ≤ k) && (decide (k < many) && decide (w = -1 ∨ nI (zpc k) = w))) = ((decide (k = m) && decide (w = -1 ∨ nI (zpc m) = w)) || (decide (m + 1 ≤ k) && (decide (k < many) && decide (w = -1 ∨ nI (zpc k) = w)))) := fun k => by
      by_cases e : k = m
      · subst e
        rw [decide_eq_true (Nat.le_refl k), decide_eq_true (show k < many by omega), decide_eq_true (rfl : k = k), decide_eq_false (show ¬ k + 1 ≤ k by omega)]; simp
      · rw [decide_eq_false e]
        by_cases q : m ≤ k
        · rw [decide_eq_true q, decide_eq_true (show m + 1 ≤ k by omega)]; simp
        · rw [decide_eq_false q, decide_eq_false (show ¬ m + 1 ≤ k by omega)]; simp
    have yes : (w = -1 ∨ nI (zpc m) = w) → ∃ y, f_X2_marksWith_L5 (nI many) w fu (x ||| zm1 m) (nI (m + 1)) = some y ∧ ∀ k, k < 64 → zbit y k = (zbit x k || (decide (m ≤ k) && (decide (k < many) && decide (w = -1 ∨ nI (zpc k) = w)))) := fun hq => by
      obtain ⟨y, y1, y2⟩ := ih (m + 1) (x ||| zm1 m) fu (by omega) (by omega)
      refine ⟨y, y1, fun k hk => ?_⟩
      rw [y2 k hk, zbit_or, zm1_bit (by omega) hk, hsp k, decide_eq_true hq]
      cases zbit x k <;> cases decide (k = m) <;> simp
    have no : ¬ (w = -1 ∨ nI (zpc m) = w) → ∃ y, f_X2_marksWith_L5 (nI many) w fu x (nI (m + 1)) = some y ∧ ∀ k, k < 64 → zbit y k = (zbit x k || (decide (m ≤ k) && (decide (k < many) && decide (w = -1 ∨ nI (zpc k) = w)))) := fun hq => by
      obtain ⟨y, y1, y2⟩ := ih (m + 1) x fu (by omega) (by omega)
      refine ⟨y, y1, fun k hk => ?_⟩
      rw [y2 k hk, hsp k, decide_eq_false hq]
      simp
    rw [f_X2_marksWith_L5, if_neg (nI_ge (by omega) (by omega)), nI_1, z_bc m (by omega)]
    by_cases c1 : w = -1
    · rw [if_pos c1, z_sbind]
      exact yes (Or.inl c1)
    · rw [if_neg c1, z_sbind]
      by_cases c2 : nI (zpc m) = w
      · rw [if_pos c2, z_sbind]
        exact yes (Or.inr c2)
      · rw [if_neg c2]
        exact no (fun z => z.elim c1 c2)
theorem zlx_L0 {n : Nat} {w : Int32} {T : Int64} (hn : n ≤ 5) (hT : ∀ k, k < 64 → zbit T k = (decide (k < 2 ^ n) && decide (w = -1 ∨ nI (zpc k) = w))) : zlx T 0 = zL0 n w := by
  have hp : 2 ^ n ≤ 32 := Nat.pow_le_pow_right (show 0 < 2 by decide) hn
  unfold zlx zL0
  rw [show 32 - 0 = 2 ^ n + (32 - 2 ^ n) by omega, ← List.range'_append_1, List.filter_append]
  have e2 : (List.range' (0 + 2 ^ n) (32 - 2 ^ n)).filter (fun j => zbit T j) = [] := by
    rw [List.filter_eq_nil_iff]
    intro j hj
    rw [List.mem_range'_1] at hj
    rw [hT j (by omega), decide_eq_false (show ¬ j < 2 ^ n by omega)]
    simp
  rw [e2, List.append_nil]
  apply List.filter_congr
  intro j hj
  rw [List.mem_range'_1] at hj
  rw [hT j (by omega), decide_eq_true (show j < 2 ^ n by omega), Bool.true_and]
theorem f2_apart_loop {a : xT} {n kd t d m many : Nat} {T : Int64} (h : zis a n kd t d) (hb : zbd n kd t d) (hmany : many ≤ 32) (hm : m < many) : ∀ r k x fuel, k + r = many → r < fuel → ∃ y, f_X2_apartAbove_L15 (nI m) T (nI many) (nI (zrev n m)) a fuel x (nI k) = some y ∧ ∀ j, j < 64 → zbit y j = (zbit x j || (decide (k ≤ j) && (decide (j < many) && (zbit T j && !zalike n kd t d m j)))) := by
  intro r
  induction r with
  | zero =>
    intro k x fuel hk hf
    obtain ⟨fu, rfl⟩ : ∃ fu, fuel = fu + 1 := ⟨fuel - 1, by omega⟩
    refine ⟨x, ?_, fun j hj => ?_⟩
    · rw [f_X2_apartAbove_L15, if_pos (nI_le (by omega) (by omega))]
    · by_cases c : k ≤ j
      · rw [decide_eq_false (show ¬ j < many by omega)]; simp
      · rw [decide_eq_false c]; simp
  | succ r ih =>
    intro k x fuel hk hf
    obtain ⟨fu, rfl⟩ : ∃ fu, fuel = fu + 1 := ⟨fuel - 1, by omega⟩
    have hsp : ∀ j, (decide (k ≤ j) && (decide (j < many) && (zbit T j && !zalike n kd t d m j))) = ((decide (j = k) && (zbit T k && !zalike n kd t d m k)) || (decide (k + 1 ≤ j) && (decide (j < many) && (zbit T j && !zalike n kd t d m j)))) := fun j => by
      by_cases e : j = k
      · subst e
        rw [decide_eq_true (Nat.le_refl j), decide_eq_true (show j < many by omega), decide_eq_true (rfl : j = j), decide_eq_false (show ¬ j + 1 ≤ j by omega)]; simp
      · rw [decide_eq_false e]
        by_cases q : k ≤ j
        · rw [decide_eq_true q, decide_eq_true (show k + 1 ≤ j by omega)]; simp
        · rw [decide_eq_false q, decide_eq_false (show ¬ k + 1 ≤ j by omega)]; simp
    have no : (zbit T k && !zalike n kd t d m k) = false → ∃ y, f_X2_apartAbove_L15 (nI m) T (nI many) (nI (zrev n m)) a fu x (nI (k + 1)) = some y ∧ ∀ j, j < 64 → zbit y j = (zbit x j || (decide (k ≤ j) && (decide (j < many) && (zbit T j && !zalike n kd t d m j)))) := fun hq => by
      obtain ⟨y, y1, y2⟩ := ih (k + 1) x fu (by omega) (by omega)
      refine ⟨y, y1, fun j hj => ?_⟩
      rw [y2 j hj, hsp j, hq]
      simp
    rw [f_X2_apartAbove_L15, if_neg (nI_ge (by omega) (by omega)), nI_1]
    cases c1 : zbit T k with
    | false =>
      rw [if_pos ((zbit_shr (by omega)).mpr c1)]
      exact no (by rw [c1]; rfl)
    | true =>
      rw [if_neg (fun z => by rw [zbit_shr (by omega), c1] at z; cases z), f1_alike h hb (by omega) (by omega), z_sbind, z_sbind]
      cases c2 : zalike n kd t d m k with
      | true =>
        rw [if_neg (by decide)]
        exact no (by rw [c1, c2]; rfl)
      | false =>
        rw [if_pos (by decide)]
        obtain ⟨y, y1, y2⟩ := ih (k + 1) (x ||| zm1 k) fu (by omega) (by omega)
        refine ⟨y, y1, fun j hj => ?_⟩
        rw [y2 j hj, zbit_or, zm1_bit (by omega) hj, hsp j, c1, c2]
        cases zbit x j <;> cases decide (j = k) <;> simp
theorem f2_apart {a : xT} {n kd t d m many N : Nat} {T : Int64} (h : zis a n kd t d) (hb : zbd n kd t d) (hmany : many ≤ 32) (hm : m < many) (hT : ∀ k, zbit T k = true → k < many) (hN : 100 ≤ N) : ∃ y, f_X2_apartAbove N (nI m) T (nI many) a = some y ∧ ∀ j, j < 64 → zbit y j = (decide (m < j) && (zbit T j && !zalike n kd t d m j)) := by
  obtain ⟨y, y1, y2⟩ := f2_apart_loop (T := T) h hb hmany hm (many - (m + 1)) (m + 1) 0 N (by omega) (by omega)
  refine ⟨y, ?_, fun j hj => ?_⟩
  · unfold f_X2_apartAbove
    rw [f1_rev h.1 hb.2.1 (by omega) (by omega), z_sbind, nI_1, y1]
    rfl
  · rw [y2 j hj, zbit_0, Bool.false_or]
    cases q : zbit T j with
    | false => simp
    | true =>
      rw [decide_eq_true (hT j q)]
      rfl
def zfm (a a2 : xT) : Prop := (∀ j, (j < 14 ∨ 16 < j) → gI a2 j = gI a j) ∧ (∀ c j, c ≠ 16 → c ≠ 18 → gA a2 c j = gA a c j) ∧ ∀ c j, c ≠ 17 → gB a2 c j = gB a c j
theorem zfm_tr {a b c : xT} (h : zfm a b) (g : zfm b c) : zfm a c := ⟨fun j hj => (g.1 j hj).trans (h.1 j hj), fun x j hx hy => (g.2.1 x j hx hy).trans (h.2.1 x j hx hy), fun x j hx => (g.2.2 x j hx).trans (h.2.2 x j hx)⟩
theorem zfm_refl (a : xT) : zfm a a := ⟨fun _ _ => rfl, fun _ _ _ _ => rfl, fun _ _ _ => rfl⟩
theorem zfm_16 {a a2 : xT} (h : zf16 a a2) : zfm a a2 := ⟨fun j _ => h.1 j, fun c j hc _ => h.2.1 c j hc, fun c j _ => h.2.2 c j⟩
theorem zlx_len (x : Int64) (i : Nat) : (zlx x i).length ≤ 32 := by
  have h2 := List.length_filter_le (fun j => zbit x j) (List.range' i (32 - i))
  rw [List.length_range'] at h2
  have h3 : (zlx x i).length = ((List.range' i (32 - i)).filter (fun j => zbit x j)).length := rfl
  omega
theorem f2_seek_loop {n kd t d many N : Nat} {T : Int64} (hb : zbd n kd t d) (hmany : many ≤ 32) (hT : ∀ k, zbit T k = true → k < many) (hN : 5000 ≤ N) : ∀ q a fuel, q ≤ many → zis a n kd t d → zlg a (zalike n kd t d) T many q → q < fuel → ∃ a2, f_X2_seek_L57 N (nI many) T fuel (nI q - 1) a = some a2 ∧ zlg a2 (zalike n kd t d) T many 0 ∧ (∀ j, gI a2 j = gI a j) ∧ zfm a a2 := by
  intro q
  induction q with
  | zero =>
    intro a fuel hq ha hg hf
    obtain ⟨fu, rfl⟩ : ∃ fu, fuel = fu + 1 := ⟨fuel - 1, by omega⟩
    refine ⟨a, ?_, hg, fun _ => rfl, zfm_refl a⟩
    rw [f_X2_seek_L57, if_pos (by decide)]
  | succ q ih =>
    intro a fuel hq ha hg hf
    obtain ⟨fu, rfl⟩ : ∃ fu, fuel = fu + 1 := ⟨fuel - 1, by omega⟩
    have e1 : nI (q + 1) - 1 = nI q := pk_sub (b := 1) (by omega)
    have e2 : nI q + (-1) = nI q - 1 := (Int32.sub_eq_add_neg _ _).symm
    have hb1 := hg.1 (q + 1) (Nat.le_refl _) hq
    have hlenW : (zW (zalike n kd t d) (zlx T (q + 1))).length ≤ 32 := Nat.le_trans (zW_len _ _) (zlx_len _ _)
    generalize hW : (zW (zalike n kd t d) (zlx T (q + 1))).length = W at hb1 hlenW
    have ha1 : zis (sA a 18 (upd (gA a 18) q (nI W))) n kd t d := ha
    obtain ⟨y, y1, y2⟩ := f2_apart (N := N) ha1 hb hmany (show q < many by omega) hT (by omega)
    have hg2 : zlg (sB (sA a 18 (upd (gA a 18) q (nI W))) 17 (vp_updL (gB a 17) q y)) (zalike n kd t d) T many (q + 1) := by
      refine ⟨fun m h1 h2 => ?_, fun m h1 h2 k hk => ?_⟩
      · rw [gA_sB, gA_sA, if_pos rfl, upd_at, if_neg (by omega)]
        exact hg.1 m h1 h2
      · rw [gB_sB, if_pos rfl, updL_at, if_neg (by omega)]
        exact hg.2 m h1 h2 k hk
    have hfm2 : zfm a (sB (sA a 18 (upd (gA a 18) q (nI W))) 17 (vp_updL (gB a 17) q y)) := ⟨fun _ _ => rfl, fun c j _ hc => by rw [gA_sB, gA_sA, if_neg hc], fun c j hc => by rw [gB_sB, if_neg hc]; rfl⟩
    have hbq : gB (sB (sA a 18 (upd (gA a 18) q (nI W))) 17 (vp_updL (gB a 17) q y)) 17 q = y := by rw [gB_sB, if_pos rfl, updL_at, if_pos rfl]
    have hgq : ∀ a3 : xT, zf16 (sB (sA a 18 (upd (gA a 18) q (nI W))) 17 (vp_updL (gB a 17) q y)) a3 → ∀ v : Nat, v = (zW (zalike n kd t d) (zlx T q)).length → ∀ a4 : xT, (∀ j, gA a4 18 j = if j = q then nI v else gA a3 18 j) → (∀ j, gB a4 17 j = gB a3 17 j) → zlg a4 (zalike n kd t d) T many q := by
      intro a3 f3 v hv a4 g1 g2
      refine ⟨fun m h1 h2 => ?_, fun m h1 h2 k hk => ?_⟩
      · rw [g1]
        by_cases e : m = q
        · rw [if_pos e, e, hv]
        · rw [if_neg e, f3.2.1 18 m (by decide)]
          exact hg2.1 m (by omega) h2
      · rw [g2, f3.2.2]
        by_cases e : m = q
        · rw [e, hbq]; exact y2 k hk
        · exact hg2.2 m (by omega) h2 k hk
    rw [e1, f_X2_seek_L57, if_neg (nI_pos (by omega)), nI_1, if_pos (z_xin (by omega) (by decide)), if_pos (z_xin (by omega) (by decide))]
    simp only [nI_clamp (show q < 2 ^ 31 by omega), nI_clamp (show q + 1 < 2 ^ 31 by omega), hb1]
    rw [y1, z_sbind, if_pos (z_xin (by omega) (by decide)), e2]
    cases c1 : zbit T q with
    | false =>
      rw [if_pos ((zbit_shr (by omega)).mpr c1)]
      have hzz : zlx T q = zlx T (q + 1) := by rw [zlx_s (by omega), if_neg (by rw [c1]; decide)]
      obtain ⟨a5, w1, w2, w3, w4⟩ := ih (sB (sA a 18 (upd (gA a 18) q (nI W))) 17 (vp_updL (gB a 17) q y)) fu (by omega) ha1 (hgq _ (zf16_refl _) W (by rw [hzz, hW]) _ (fun j => by
        rw [gA_sB, gA_sA, if_pos rfl, upd_at]
        by_cases e : j = q
        · rw [if_pos e, if_pos e]
        · rw [if_neg e, if_neg e]) (fun j => rfl)) (by omega)
      exact ⟨a5, w1, w2, w3, zfm_tr hfm2 w4⟩
    | true =>
      rw [if_neg (fun z => by rw [zbit_shr (by omega), c1] at z; cases z), if_pos (z_xin (by omega) (by decide)), if_pos (z_xin (by omega) (by decide)), updL_at, if_pos rfl, upd_at, if_neg (by omega), hb1]
      obtain ⟨a3, p1, p2, p3, p4⟩ := f2_pick (N := N) hmany hT hN 40 y W (q + 1) 0 _ (by omega) (by omega) hq hg2 (fun k h1 h2 => by
        have hk64 : k < 64 := Classical.byContradiction fun z => by rw [zbit_64 (by omega)] at h2; cases h2
        rw [y2 k hk64] at h2
        exact (Bool.and_eq_true_iff.mp (Bool.and_eq_true_iff.mp h2).2).1)
      have hzy : zlx y (q + 1) = (zlx T (q + 1)).filter (fun k => !zalike n kd t d q k) := by
        unfold zlx
        rw [List.filter_filter]
        apply List.filter_congr
        intro j hj
        rw [List.mem_range'_1] at hj
        rw [y2 j (by omega), decide_eq_true (show q < j by omega)]
        cases zbit T j <;> simp
      rw [hzy] at p1
      rw [show nI 0 = (0 : Int32) from rfl] at p1
      rw [p1, z_sbind]
      have hzz : zlx T q = q :: zlx T (q + 1) := by rw [zlx_s (by omega), if_pos c1]
      have hmo : (zW (zalike n kd t d) ((zlx T (q + 1)).filter (fun k => !zalike n kd t d q k))).length ≤ W := by rw [← hW]; exact zW_mono List.filter_sublist
      have hgA3 : ∀ j, gA a3 18 j = if j = q then nI W else gA a 18 j := fun j => by rw [p4.2.1 18 j (by decide), gA_sB, gA_sA, if_pos rfl, upd_at]
      cases c2 : zV (zalike n kd t d) W ((zlx T (q + 1)).filter (fun k => !zalike n kd t d q k)) with
      | none =>
        simp only [Option.isSome_none]
        rw [if_pos (show bI false = 0 from rfl)]
        have hlt : (zW (zalike n kd t d) ((zlx T (q + 1)).filter (fun k => !zalike n kd t d q k))).length < W := Classical.byContradiction fun z => by
          obtain ⟨Q, hQ⟩ := zV_some (zalike n kd t d) _ ((zlx T (q + 1)).filter (fun k => !zalike n kd t d q k)) (Nat.le_refl _) W (by omega)
          rw [c2] at hQ; cases hQ
        have hv : W = (zW (zalike n kd t d) (zlx T q)).length := by
          rw [hzz, zW_cons, hW]
          split
          · rw [List.length_cons]; omega
          · exact hW.symm
        obtain ⟨a5, w1, w2, w3, w4⟩ := ih a3 fu (by omega) (zis_keep ha1 (fun j _ => p4.1 j)) (hgq a3 p4 W hv a3 (fun j => by
          by_cases e : j = q
          · rw [if_pos e, hgA3, if_pos e]
          · rw [if_neg e]) (fun j => rfl)) (by omega)
        exact ⟨a5, w1, w2, fun j => (w3 j).trans (p4.1 j), zfm_tr hfm2 (zfm_tr (zfm_16 p4) w4)⟩
      | some Q =>
        simp only [Option.isSome_some]
        rw [if_neg (show ¬ bI true = 0 by decide), if_pos (z_xin (by omega) (by decide)), if_pos (z_xin (by omega) (by decide)), hgA3, if_pos rfl, nI_1]
        have hge := zV_le c2
        have hv : W + 1 = (zW (zalike n kd t d) (zlx T q)).length := by
          rw [hzz, zW_cons, hW, if_pos (by omega), List.length_cons]; omega
        obtain ⟨a5, w1, w2, w3, w4⟩ := ih (sA a3 18 (upd (gA a3 18) q (nI (W + 1)))) fu (by omega) (zis_keep ha1 (fun j _ => p4.1 j)) (hgq a3 p4 (W + 1) hv _ (fun j => by
          rw [gA_sA, if_pos rfl, upd_at]) (fun j => rfl)) (by omega)
        have hfm3 : zfm a3 (sA a3 18 (upd (gA a3 18) q (nI (W + 1)))) := ⟨fun _ _ => rfl, fun c j _ hc => by rw [gA_sA, if_neg hc], fun _ _ _ => rfl⟩
        exact ⟨a5, w1, w2, fun j => (w3 j).trans (p4.1 j), zfm_tr hfm2 (zfm_tr (zfm_16 p4) (zfm_tr hfm3 w4))⟩
def zsk (N : Nat) (v2 : Int32) (a : xT) : Option xT :=
    (f_X1_all (sI (sI a 16 1) 15 v2)).bind (fun q29 =>
    (f_X2_marksWith N (xmin 32 (q29 + 1)) v2).bind (fun q40 =>
    (if xin (xmin 32 (q29 + 1)) 33 then
    (f_X2_seek_L57 N (xmin 32 (q29 + 1)) q40 N ((xmin 32 (q29 + 1)) - 1) (sA (sI (sI a 16 1) 15 v2) 18 (upd (gA a 18) (Int32.toNatClampNeg (xmin 32 (q29 + 1))) 0))).bind (fun q57 =>
    (if xin 0 33 then
    (f_X2_canPick 40 N q40 ((gA q57 18) (Int32.toNatClampNeg 0)) 0 0 (sI q57 14 ((gA q57 18) (Int32.toNatClampNeg 0)))).bind (fun q170 =>
    some q170.2)
    else none))
    else none)))
theorem f2_seek_eq (N : Nat) (v2 : Int32) (a : xT) : f_X2_seek N v2 a = if gI a 16 = 0 then zsk N v2 a else if gI a 15 = v2 then some a else zsk N v2 a := rfl
theorem z_x033 : xin 0 33 := z_xin (k := 0) (n := 33) (by decide) (by decide)
theorem f2_sk {a : xT} {n kd t d N : Nat} (w : Int32) (h : zis a n kd t d) (hb : zbd n kd t d) (hn5 : n ≤ 5) (hN : 5000 ≤ N) : ∃ a2, zsk N w a = some a2 ∧ zfm a a2 ∧ gI a2 16 = 1 ∧ gI a2 15 = w ∧ gI a2 14 = nI (zW (zalike n kd t d) (zL0 n w)).length ∧ ∀ i, i < (zW (zalike n kd t d) (zL0 n w)).length → gA a2 16 i = nI ((zW (zalike n kd t d) (zL0 n w)).getD i 0) := by
  have hp : 2 ^ n ≤ 32 := Nat.pow_le_pow_right (show 0 < 2 by decide) hn5
  have hp0 : 0 < 2 ^ n := Nat.two_pow_pos n
  have h1 : zis (sI (sI a 16 1) 15 w) n kd t d := h
  have hxm : xmin 32 (nI (2 ^ n - 1) + 1) = nI (2 ^ n) := by
    rw [nI_1, show 2 ^ n - 1 + 1 = 2 ^ n by omega, show (32 : Int32) = nI 32 from rfl, z_xmin (by decide) (by omega), show min 32 (2 ^ n) = 2 ^ n by omega]
  obtain ⟨T, t1, t2⟩ := f2_with_loop (many := 2 ^ n) w hp (2 ^ n) 0 0 N (by omega) (by omega)
  rw [show nI 0 = (0 : Int32) from rfl] at t1
  have hT2 : ∀ k, k < 64 → zbit T k = (decide (k < 2 ^ n) && decide (w = -1 ∨ nI (zpc k) = w)) := fun k hk => by rw [t2 k hk, zbit_0, decide_eq_true (Nat.zero_le k)]; simp
  have hT : ∀ k, zbit T k = true → k < 2 ^ n := fun k hk => by
    have hk64 : k < 64 := Classical.byContradiction fun z => by rw [zbit_64 (by omega)] at hk; cases hk
    rw [hT2 k hk64] at hk
    exact of_decide_eq_true (Bool.and_eq_true_iff.mp hk).1
  have hL := zlx_L0 (T := T) hn5 hT2
  have hg0 : zlg (sA (sI (sI a 16 1) 15 w) 18 (upd (gA a 18) (2 ^ n) 0)) (zalike n kd t d) T (2 ^ n) (2 ^ n) := by
    refine ⟨fun m h2 h3 => ?_, fun m h2 h3 => by omega⟩
    have e : m = 2 ^ n := by omega
    rw [e, gA_sA, if_pos rfl, upd_at, if_pos rfl, zlx_nil (fun j h4 h5 => hT j h5), zW_nil]
    rfl
  obtain ⟨a2, u1, u2, u3, u4⟩ := f2_seek_loop (N := N) hb hp hT hN (2 ^ n) (sA (sI (sI a 16 1) 15 w) 18 (upd (gA a 18) (2 ^ n) 0)) N (Nat.le_refl _) h1 hg0 (by omega)
  have hb0 := u2.1 0 (Nat.le_refl _) (by omega)
  have hlenW : (zW (zalike n kd t d) (zlx T 0)).length ≤ 32 := Nat.le_trans (zW_len _ _) (zlx_len _ _)
  have hg3 : zlg (sI a2 14 (nI (zW (zalike n kd t d) (zlx T 0)).length)) (zalike n kd t d) T (2 ^ n) 0 := u2
  obtain ⟨a3, p1, p2, p3, p4⟩ := f2_pick (N := N) hp hT hN 40 T (zW (zalike n kd t d) (zlx T 0)).length 0 0 _ (by omega) (by omega) (by omega) hg3 (fun k _ hk => hk)
  rw [show nI 0 = (0 : Int32) from rfl] at p1
  have hV := zV_W (zalike n kd t d) (zlx T 0).length (zlx T 0) (Nat.le_refl _)
  refine ⟨a3, ?_, ?_, ?_, ?_, ?_, ?_⟩
  · unfold zsk f_X2_marksWith
    rw [f1_all h1.1 hb.2.1, z_sbind, hxm, t1]
    simp only [z_sbind]
    rw [if_pos (z_xin (by omega) (by decide)), nI_clamp (by omega), u1, z_sbind, if_pos z_x033, z_clamp0, hb0, p1, z_sbind]
  · refine zfm_tr (b := sA (sI (sI a 16 1) 15 w) 18 (upd (gA a 18) (2 ^ n) 0)) ⟨fun j hj => ?_, fun c j _ hc => ?_, fun c j _ => rfl⟩ (zfm_tr u4 (zfm_tr (b := sI a2 14 (nI (zW (zalike n kd t d) (zlx T 0)).length)) ⟨fun j hj => ?_, fun _ _ _ _ => rfl, fun _ _ _ => rfl⟩ (zfm_16 p4)))
    · rw [gI_sA, gI_sI, if_neg (by omega), gI_sI, if_neg (by omega)]
    · rw [gA_sA, if_neg hc]; rfl
    · rw [gI_sI, if_neg (by omega)]
  · rw [p4.1, gI_sI, if_neg (by decide), u3, gI_sA, gI_sI, if_neg (by decide), gI_sI, if_pos rfl]
  · rw [p4.1, gI_sI, if_neg (by decide), u3, gI_sA, gI_sI, if_pos rfl]
  · rw [p4.1, gI_sI, if_pos rfl, hL]
  · intro i hi
    rw [← hL] at hi ⊢
    have := p2 _ hV i hi
    rw [Nat.zero_add] at this
    exact this
