/-! the class's search for a row -/
def zlx (x : Int64) (i : Nat) : List Nat := (List.range' i (32 - i)).filter (fun j => zbit x j)
theorem zlx_s {x : Int64} {i : Nat} (h : i < 32) : zlx x i = if zbit x i = true then i :: zlx x (i + 1) else zlx x (i + 1) := by
  unfold zlx
  rw [show 32 - i = (32 - (i + 1)) + 1 by omega, List.range'_succ, List.filter_cons]
theorem zlx_mem {x : Int64} {i j : Nat} : j ∈ zlx x i ↔ (i ≤ j ∧ j < 32) ∧ zbit x j = true := by
  unfold zlx
  rw [List.mem_filter, List.mem_range'_1]
  constructor
  · rintro ⟨⟨h1, h2⟩, h3⟩; exact ⟨⟨h1, by omega⟩, h3⟩
  · rintro ⟨⟨h1, h2⟩, h3⟩; exact ⟨⟨h1, by omega⟩, h3⟩
theorem zlx_nil {x : Int64} {i : Nat} (h : ∀ j, i ≤ j → zbit x j = true → j < i) : zlx x i = [] := by
  apply List.eq_nil_iff_forall_not_mem.mpr
  intro j hj
  obtain ⟨⟨h1, h2⟩, h3⟩ := zlx_mem.mp hj
  have := h j h1 h3
  omega
theorem zlx_sub {x y : Int64} {i : Nat} (h : ∀ j, i ≤ j → zbit x j = true → zbit y j = true) : (zlx x i).Sublist (zlx y i) := by
  have e : zlx x i = (zlx y i).filter (fun j => zbit x j) := by
    unfold zlx
    rw [List.filter_filter]
    apply List.filter_congr
    intro j hj
    rw [List.mem_range'_1] at hj
    cases q : zbit x j with
    | false => rfl
    | true => rw [h j hj.1 q]; rfl
  rw [e]
  exact List.filter_sublist
theorem zbit_and (x y : Int64) (i : Nat) : zbit (x &&& y) i = (zbit x i && zbit y i) := by simp [zbit]
theorem zbit_sh (x : Int64) {s : Nat} (hs : s < 64) (j : Nat) : zbit (xlushr x (nI s)) j = zbit x (s + j) := by
  unfold zbit xlushr
  rw [wb_cu s hs, z_ushr (j := s) hs (UInt64.toNat_ofNat_of_lt' (show s < UInt64.size from Nat.lt_of_lt_of_le hs (by decide))), BitVec.getLsbD_ushiftRight]
theorem zbit_64 {x : Int64} {j : Nat} (h : 64 ≤ j) : zbit x j = false := BitVec.getLsbD_of_ge _ _ h
def zlg (a : xT) (A : Nat → Nat → Bool) (T : Int64) (many fr : Nat) : Prop := (∀ m, fr ≤ m → m ≤ many → gA a 18 m = nI (zW A (zlx T m)).length) ∧ ∀ m, fr ≤ m → m < many → ∀ k, k < 64 → zbit (gB a 17 m) k = (decide (m < k) && (zbit T k && !A m k))
def zf16 (a a2 : xT) : Prop := (∀ j, gI a2 j = gI a j) ∧ (∀ c j, c ≠ 16 → gA a2 c j = gA a c j) ∧ ∀ c j, gB a2 c j = gB a c j
theorem zf16_refl (a : xT) : zf16 a a := ⟨fun _ => rfl, fun _ _ _ => rfl, fun _ _ => rfl⟩
theorem zf16_tr {a b c : xT} (h : zf16 a b) (g : zf16 b c) : zf16 a c := ⟨fun j => (g.1 j).trans (h.1 j), fun x j hx => (g.2.1 x j hx).trans (h.2.1 x j hx), fun x j => (g.2.2 x j).trans (h.2.2 x j)⟩
theorem zlg_f {a a2 : xT} {A : Nat → Nat → Bool} {T : Int64} {many fr : Nat} (h : zlg a A T many fr) (f : zf16 a a2) : zlg a2 A T many fr := ⟨fun m h1 h2 => (f.2.1 18 m (by decide)).trans (h.1 m h1 h2), fun m h1 h2 k hk => by rw [f.2.2]; exact h.2 m h1 h2 k hk⟩
theorem zlg_up {a : xT} {A : Nat → Nat → Bool} {T : Int64} {many fr fr2 : Nat} (h : zlg a A T many fr) (hf : fr ≤ fr2) : zlg a A T many fr2 := ⟨fun m h1 h2 => h.1 m (by omega) h2, fun m h1 h2 k hk => h.2 m (by omega) h2 k hk⟩
theorem zlx_and {a : xT} {A : Nat → Nat → Bool} {T op : Int64} {many fr m : Nat} (hg : zlg a A T many fr) (hfm : fr ≤ m) (hm : m < many) (ho : ∀ k, fr ≤ k → zbit op k = true → zbit T k = true) : zlx (op &&& gB a 17 m) (m + 1) = (zlx op (m + 1)).filter (fun k => !A m k) := by
  unfold zlx
  rw [List.filter_filter]
  apply List.filter_congr
  intro j hj
  rw [List.mem_range'_1] at hj
  rw [zbit_and, hg.2 m hfm hm j (by omega), decide_eq_true (show m < j by omega)]
  cases q : zbit op j with
  | false => simp
  | true => rw [ho j (by omega) q]; simp
theorem f2_stand {a : xT} {A : Nat → Nat → Bool} {T op : Int64} {many fr m : Nat} (hmany : many ≤ 32) (hT : ∀ k, zbit T k = true → k < many) (hg : zlg a A T many fr) (hfm : fr ≤ m) (hm : m < many) (ho : ∀ k, fr ≤ k → zbit op k = true → zbit T k = true) : f_X2_canStandForAny (nI m) op a = some (if ((zlx op (m + 1)).filter (fun k => A m k)).length ≤ 1 then 1 else 0) := by
  have hl : ((zlx op (m + 1)).filter (fun k => A m k)).length = zfl (fun j => zbit (op &&& (gB a 17 m ^^^ (-1))) j) (m + 1) (32 - (m + 1)) := by
    unfold zlx zfl
    rw [List.filter_filter]
    congr 1
    apply List.filter_congr
    intro j hj
    rw [List.mem_range'_1] at hj
    rw [zbit_andn _ _ (by omega), hg.2 m hfm hm j (by omega), decide_eq_true (show m < j by omega)]
    cases q : zbit op j with
    | false => simp
    | true => rw [ho j (by omega) q]; simp
  have hz : zp64 (xlushr (op &&& (gB a 17 m ^^^ (-1))) (nI (m + 1))) = ((zlx op (m + 1)).filter (fun k => A m k)).length := by
    rw [hl]
    unfold zp64
    rw [zfl_eq (q := fun j => zbit (op &&& (gB a 17 m ^^^ (-1))) j) 64 0 (m + 1) (fun t _ => by
      show zbit (xlushr _ _) (0 + t) = _
      rw [Nat.zero_add, zbit_sh _ (by omega)])]
    rw [show 64 = (32 - (m + 1)) + (32 + (m + 1)) by omega, zfl_add, zfl_none (32 + (m + 1)) (m + 1 + (32 - (m + 1))) (fun t _ => by
      show zbit (op &&& (gB a 17 m ^^^ (-1))) _ = false
      rw [zbit_and]
      cases q : zbit op (m + 1 + (32 - (m + 1)) + t) with
      | false => rfl
      | true =>
        have := hT _ (ho _ (by omega) q)
        omega), Nat.add_zero]
  have hb : ((zlx op (m + 1)).filter (fun k => A m k)).length ≤ 64 := by
    rw [hl]
    have := zfl_le (fun j => zbit (op &&& (gB a 17 m ^^^ (-1))) j) (m + 1) (32 - (m + 1))
    omega
  unfold f_X2_canStandForAny
  rw [if_pos (z_xin (by omega) (by decide)), nI_clamp (by omega), nI_1, z_bc64, hz, z_sbind]
  by_cases c : ((zlx op (m + 1)).filter (fun k => A m k)).length ≤ 1
  · rw [if_neg (fun q => by
      have := (nI_ltI (a := 1) (b := ((zlx op (m + 1)).filter (fun k => A m k)).length) (by decide) (by omega)).mp q
      omega), if_pos c]
  · rw [if_pos (show (1 : Int32) < nI _ from nI_lt (a := 1) (by omega) (by omega)), if_neg c]
theorem f2_pick {A : Nat → Nat → Bool} {T : Int64} {many N : Nat} (hmany : many ≤ 32) (hT : ∀ k, zbit T k = true → k < many) (hN : 5000 ≤ N) : ∀ D op need fr depth a, need < D → depth + need ≤ 32 → fr ≤ many → zlg a A T many fr → (∀ k, fr ≤ k → zbit op k = true → zbit T k = true) → ∃ a2, f_X2_canPick D N op (nI need) (nI fr) (nI depth) a = some (bI (zV A need (zlx op fr)).isSome, a2) ∧ (∀ Q, zV A need (zlx op fr) = some Q → ∀ i, i < need → gA a2 16 (depth + i) = nI (Q.getD i 0)) ∧ (∀ i, i < depth → gA a2 16 i = gA a 16 i) ∧ zf16 a a2 := by
  intro D
  induction D with
  | zero => intro op need fr depth a h; omega
  | succ D ih =>
    intro op need fr depth a hnd hdn hfr hg ho
    rw [f_X2_canPick]
    cases need with
    | zero =>
      rw [if_neg (by decide), zV_0]
      exact ⟨a, rfl, fun Q _ i hi => by omega, fun _ _ => rfl, zf16_refl a⟩
    | succ k =>
      rw [if_pos (show (0 : Int32) < nI (k + 1) from nI_lt (a := 0) (by omega) (by omega)), if_pos (show nI depth < (32 : Int32) from nI_lt (b := 32) (by omega) (by decide))]
      have loop : ∀ r m a fuel, m + r = many → fr ≤ m → zlg a A T many fr → r < fuel → ∃ a2 z, f_X2_canPick_L19 (f_X2_canPick D N) N op (nI (k + 1)) (nI depth) fuel (nI m) a = some z ∧ ((∃ Q, zV A (k + 1) (zlx op m) = some Q ∧ z = .inr (.inl a2) ∧ ∀ i, i < k + 1 → gA a2 16 (depth + i) = nI (Q.getD i 0)) ∨ (zV A (k + 1) (zlx op m) = none ∧ (z = .inl a2 ∨ z = .inr (.inr a2)))) ∧ (∀ i, i < depth → gA a2 16 i = gA a 16 i) ∧ zf16 a a2 := by
        intro r
        induction r with
        | zero =>
          intro m a fuel hm hfm hg hf
          obtain ⟨fu, rfl⟩ : ∃ fu, fuel = fu + 1 := ⟨fuel - 1, by omega⟩
          have hnil : zlx op m = [] := zlx_nil (fun j h1 h2 => by have := hT j (ho j (by omega) h2); omega)
          have hnilT : zlx T m = [] := zlx_nil (fun j h1 h2 => by have := hT j h2; omega)
          refine ⟨a, .inl a, ?_, Or.inr ⟨by rw [hnil, zV_nil], Or.inl rfl⟩, fun _ _ => rfl, zf16_refl a⟩
          rw [f_X2_canPick_L19]
          by_cases c : 32 ≤ m
          · rw [if_pos (show (32 : Int32) ≤ nI m from nI_le (a := 32) c (by omega))]
          · rw [if_neg (show ¬ (32 : Int32) ≤ nI m from nI_ge (b := 32) (by omega) (by decide)), if_pos (z_xin (by omega) (by decide))]
            simp only [nI_clamp (show m < 2 ^ 31 by omega), hg.1 m hfm (by omega), hnilT, zW_nil]
            rw [if_pos (nI_lt (by simp) (by omega))]
        | succ r ih2 =>
          intro m a fuel hm hfm hg hf
          obtain ⟨fu, rfl⟩ : ∃ fu, fuel = fu + 1 := ⟨fuel - 1, by omega⟩
          have hm32 : m < 32 := by omega
          have hlen : (zW A (zlx T m)).length ≤ 32 := by
            have h1 := zW_len A (zlx T m)
            have h2 := List.length_filter_le (fun j => zbit T j) (List.range' m (32 - m))
            rw [List.length_range'] at h2
            have h3 : (zlx T m).length = ((List.range' m (32 - m)).filter (fun j => zbit T j)).length := rfl
            omega
          rw [f_X2_canPick_L19, if_neg (show ¬ (32 : Int32) ≤ nI m from nI_ge (b := 32) hm32 (by decide)), if_pos (z_xin (by omega) (by decide))]
          simp only [nI_clamp (show m < 2 ^ 31 by omega), hg.1 m hfm (by omega)]
          by_cases c1 : (zW A (zlx T m)).length < k + 1
          · rw [if_pos (nI_lt c1 (by omega))]
            refine ⟨a, .inl a, rfl, Or.inr ⟨?_, Or.inl rfl⟩, fun _ _ => rfl, zf16_refl a⟩
            cases q : zV A (k + 1) (zlx op m) with
            | none => rfl
            | some Q =>
              have h1 := zV_le q
              have h2 : (zW A (zlx op m)).length ≤ (zW A (zlx T m)).length := zW_mono (zlx_sub (fun j h1 h2 => ho j (by omega) h2))
              omega
          · rw [if_neg (nI_nlt (by omega) (by omega)), nI_1]
            cases c2 : zbit op m with
            | false =>
              rw [if_pos ((zbit_shr (by omega)).mpr c2), zlx_s hm32, if_neg (by rw [c2]; decide)]
              exact ih2 (m + 1) a fu (by omega) (by omega) hg (by omega)
            | true =>
              have e1 : nI (k + 1) - 1 = nI k := pk_sub (b := 1) (by omega)
              have hfa : zf16 a (sA a 16 (upd (gA a 16) depth (nI m))) := ⟨fun _ => rfl, fun c j hc => by rw [gA_sA, if_neg hc], fun _ _ => rfl⟩
              have hg1 := zlg_f hg hfa
              have hand := zlx_and (op := op) hg hfm (show m < many by omega) ho
              obtain ⟨a2, w1, w2, w3, w4⟩ := ih (op &&& gB a 17 m) k (m + 1) (depth + 1) (sA a 16 (upd (gA a 16) depth (nI m))) (by omega) (by omega) (by omega) (zlg_up hg1 (by omega)) (fun j h1 h2 => by
                rw [zbit_and] at h2
                exact ho j (by omega) (Bool.and_eq_true_iff.mp h2).1)
              rw [hand] at w1 w2
              rw [if_neg (fun z => by rw [zbit_shr (by omega), c2] at z; cases z), if_pos (z_xin (by omega) (by decide)), if_pos (z_xin (by omega) (by decide)), nI_clamp (n := depth) (by omega), nI_1, e1, w1, z_sbind, zlx_s hm32, if_pos c2, zV_cons]
              have hfr2 := zf16_tr hfa w4
              cases q : zV A k ((zlx op (m + 1)).filter (fun k => !A m k)) with
              | some Q =>
                rw [q] at w2
                refine ⟨a2, .inr (.inl a2), ?_, Or.inl ⟨m :: Q, rfl, rfl, fun i hi => ?_⟩, fun i hi => ?_, hfr2⟩
                · rw [if_neg (show ¬ bI (some Q).isSome = 0 by simp [bI])]
                · cases i with
                  | zero =>
                    rw [Nat.add_zero, w3 depth (by omega), gA_sA, if_pos rfl, upd_at, if_pos rfl]
                    rfl
                  | succ i =>
                    have := w2 Q rfl i (by omega)
                    rw [show depth + (i + 1) = depth + 1 + i by omega, this]
                    rfl
                · rw [w3 i (by omega), gA_sA, if_pos rfl, upd_at, if_neg (by omega)]
              | none =>
                have hst := f2_stand (op := op) hmany hT (zlg_f hg1 w4) hfm (show m < many by omega) ho
                have hrow : ∀ i, i < depth → gA a2 16 i = gA a 16 i := fun i hi => by rw [w3 i (by omega), gA_sA, if_pos rfl, upd_at, if_neg (by omega)]
                simp only [Option.isSome_none, Option.elim_none]
                rw [if_pos (show bI false = 0 from rfl), hst, z_sbind]
                by_cases c3 : ((zlx op (m + 1)).filter (fun k => A m k)).length ≤ 1
                · rw [if_pos c3, if_neg z10]
                  exact ⟨a2, .inr (.inr a2), rfl, Or.inr ⟨zV_stand q c3, Or.inr rfl⟩, hrow, hfr2⟩
                · rw [if_neg c3, if_pos rfl]
                  obtain ⟨a3, z, x1, x2, x3, x4⟩ := ih2 (m + 1) a2 fu (by omega) (by omega) (zlg_f hg1 w4) (by omega)
                  exact ⟨a3, z, x1, x2, fun i hi => (x3 i hi).trans (hrow i hi), zf16_tr hfr2 x4⟩
      obtain ⟨a2, z, x1, x2, x3, x4⟩ := loop (many - fr) fr a N (by omega) (Nat.le_refl _) hg (by omega)
      rw [x1, z_sbind]
      rcases x2 with ⟨Q, y1, rfl, y3⟩ | ⟨y1, rfl | rfl⟩
      · rw [y1]
        exact ⟨a2, rfl, fun P hP => by cases hP; exact y3, x3, x4⟩
      · rw [y1]
        exact ⟨a2, rfl, fun P hP => absurd hP (by simp), x3, x4⟩
      · rw [y1]
        exact ⟨a2, rfl, fun P hP => absurd hP (by simp), x3, x4⟩
