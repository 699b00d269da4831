/-! the class's run of a rule: bits of one number -/
theorem zsh1 : (((1 : Int32).toInt64 &&& 63).toBitVec.smod 64).toNat = 1 := by decide
theorem zbit_one : ∀ j, j < 64 → zbit (1 : Int64) j = decide (j = 0) := by decide +kernel
theorem zbit_m2 : ∀ j, j < 64 → zbit (-2 : Int64) j = !decide (j = 0) := by decide +kernel
theorem zbit_zero (j : Nat) : zbit (0 : Int64) j = false := by simp [zbit]
theorem zgb_out {s : List Bool} {j : Nat} (h : s.length ≤ j) : s.getD j false = false := by simp [List.getD, h]
theorem zbit_xor (x y : Int64) (i : Nat) : zbit (x ^^^ y) i = (zbit x i ^^ zbit y i) := by simp [zbit]
theorem zbit_up (x : Int64) {j : Nat} (hj : j < 64) : zbit (x <<< ((1 : Int32).toInt64 &&& 63)) j = (!decide (j = 0) && zbit x (j - 1)) := by
  unfold zbit
  rw [Int64.toBitVec_shiftLeft, BitVec.shiftLeft_eq', zsh1, BitVec.getLsbD_shiftLeft, decide_eq_true hj, Bool.true_and]
  by_cases c : j = 0
  · subst c; rfl
  · rw [decide_eq_false c, decide_eq_false (show ¬ j < 1 by omega)]
theorem zbit_dn (x : Int64) {j : Nat} (hj : j < 64) (h : zbit x 63 = false) : zbit (x >>> ((1 : Int32).toInt64 &&& 63)) j = (decide (j < 63) && zbit x (j + 1)) := by
  unfold zbit at h ⊢
  rw [Int64.toBitVec_shiftRight, BitVec.sshiftRight', zsh1, BitVec.getLsbD_sshiftRight, decide_eq_false (show ¬ 64 ≤ j by omega), Nat.add_comm 1 j]
  by_cases c : j < 63
  · rw [if_pos (show j + 1 < 64 by omega), decide_eq_true c]; rfl
  · rw [if_neg (show ¬ j + 1 < 64 by omega), decide_eq_false c, BitVec.msb_eq_getLsbD_last]
    exact h
def zbst (v : Int64) (s : List Bool) : Prop := s.length ≤ 40 ∧ ∀ j, j < 64 → zbit v j = s.getD j false
theorem zbst_0 : zbst 0 [] := ⟨by decide, fun j _ => by rw [zbit_zero]; rfl⟩
theorem zbst_top {v : Int64} {s : List Bool} (h : zbst v s) : zbit v 63 = false := by
  rw [h.2 63 (by decide), zgb_out (by have := h.1; omega)]
theorem zbst_63 {s : List Bool} (h : s.length ≤ 40) {j : Nat} (hj : ¬ j < 63) : s.getD j false = false := zgb_out (by omega)
theorem zbst_not {v : Int64} {y : Bool} {r : List Bool} (h : zbst v (y :: r)) : zbst (v ^^^ 1) ((!y) :: r) := ⟨h.1, fun j hj => by
  rw [zbit_xor, h.2 j hj, zbit_one j hj]
  cases j with
  | zero => cases y <;> rfl
  | succ j => rw [List.getD_cons_succ, List.getD_cons_succ, decide_eq_false (by omega), Bool.xor_false]⟩
theorem zbst_and {v : Int64} {y x : Bool} {r : List Bool} (h : zbst v (y :: x :: r)) : zbst ((v >>> ((1 : Int32).toInt64 &&& 63)) &&& (v ||| (-2))) ((x && y) :: r) := by
  have hl := h.1
  rw [List.length_cons, List.length_cons] at hl
  refine ⟨by rw [List.length_cons]; omega, fun j hj => ?_⟩
  rw [zbit_and, zbit_or, zbit_m2 j hj, zbit_dn v hj (zbst_top h), h.2 j hj]
  cases j with
  | zero =>
    rw [h.2 1 (by decide)]
    cases x <;> cases y <;> rfl
  | succ j =>
    rw [decide_eq_false (show ¬ j + 1 = 0 by omega), Bool.not_false, Bool.or_true, Bool.and_true, List.getD_cons_succ]
    by_cases c : j + 1 < 63
    · rw [decide_eq_true c, Bool.true_and, h.2 (j + 1 + 1) (by omega), List.getD_cons_succ, List.getD_cons_succ]
    · rw [decide_eq_false c, Bool.false_and, zgb_out (by omega)]
theorem zbst_or {v : Int64} {y x : Bool} {r : List Bool} (h : zbst v (y :: x :: r)) : zbst ((v >>> ((1 : Int32).toInt64 &&& 63)) ||| (v &&& 1)) ((x || y) :: r) := by
  have hl := h.1
  rw [List.length_cons, List.length_cons] at hl
  refine ⟨by rw [List.length_cons]; omega, fun j hj => ?_⟩
  rw [zbit_or, zbit_and, zbit_one j hj, zbit_dn v hj (zbst_top h), h.2 j hj]
  cases j with
  | zero =>
    rw [h.2 1 (by decide)]
    cases x <;> cases y <;> rfl
  | succ j =>
    rw [decide_eq_false (show ¬ j + 1 = 0 by omega), Bool.and_false, Bool.or_false, List.getD_cons_succ]
    by_cases c : j + 1 < 63
    · rw [decide_eq_true c, Bool.true_and, h.2 (j + 1 + 1) (by omega), List.getD_cons_succ, List.getD_cons_succ]
    · rw [decide_eq_false c, Bool.false_and, zgb_out (by omega)]
theorem zbst_push {v : Int64} {s : List Bool} (x : Bool) (h : zbst v s) (hl : s.length < 40) : zbst ((v <<< ((1 : Int32).toInt64 &&& 63)) ||| (if x then 1 else 0)) (x :: s) := by
  refine ⟨by rw [List.length_cons]; omega, fun j hj => ?_⟩
  rw [zbit_or, zbit_up v hj]
  cases j with
  | zero => cases x <;> rfl
  | succ j =>
    rw [decide_eq_false (show ¬ j + 1 = 0 by omega), Bool.not_false, Bool.true_and, Nat.add_sub_cancel, h.2 j (by omega), List.getD_cons_succ]
    cases x with
    | true => rw [if_pos rfl, zbit_one _ hj, decide_eq_false (by omega), Bool.or_false]
    | false => rw [if_neg (by decide), zbit_zero, Bool.or_false]
theorem zdropc {L : List (Nat × Nat)} {i : Nat} (h : i < L.length) : L.drop i = L.getD i (0, 0) :: L.drop (i + 1) := by
  rw [List.drop_eq_getElem_cons h]; simp [h]
theorem zgp_mem {L : List (Nat × Nat)} {i : Nat} (h : i < L.length) : L.getD i (0, 0) ∈ L := by simp [h]
theorem zk7_ge {k : Nat} (h : 3 ≤ k) : zk7 k ≤ 6 := by
  unfold zk7
  rw [if_neg (by omega), if_neg (by omega), if_neg (by omega)]
  repeat' split
  all_goals omega
theorem zs1_or {v : Bool} {s t : List Bool} (h : zs1 0 v s = some t) : ∃ y x r, s = y :: x :: r ∧ t = (x || y) :: r := by
  match s, h with
  | y :: x :: r, h => exact ⟨y, x, r, rfl, (Option.some.inj h).symm⟩
theorem zs1_and {v : Bool} {s t : List Bool} (h : zs1 1 v s = some t) : ∃ y x r, s = y :: x :: r ∧ t = (x && y) :: r := by
  match s, h with
  | y :: x :: r, h => exact ⟨y, x, r, rfl, (Option.some.inj h).symm⟩
theorem zs1_not {v : Bool} {s t : List Bool} (h : zs1 2 v s = some t) : ∃ y r, s = y :: r ∧ t = (!y) :: r := by
  match s, h with
  | y :: r, h => exact ⟨y, r, rfl, (Option.some.inj h).symm⟩
theorem zs1_leaf {k : Nat} {v : Bool} {s t : List Bool} (hk : 3 ≤ k) (h : zs1 k v s = some t) : s.length < 40 ∧ t = v :: s := by
  unfold zs1 at h
  rw [if_neg (by omega), if_neg (by omega), if_neg (by omega)] at h
  by_cases c : s.length < 40
  · rw [if_pos c] at h; exact ⟨c, (Option.some.inj h).symm⟩
  · rw [if_neg c] at h; cases h
theorem f5_suits_loop {a : xT} {n m N : Nat} {ls : Nat → List Nat} {CS : List (Nat × Nat)} (h : gI a 0 = nI n) (hn : n ≤ 12) (hls : ∀ j, j < 6 → zlA a j (ls j)) (hm : m < 2 ^ n) (hcs : zcs a CS) (hv : ∀ i ∈ CS, zvd i) (hN : 200 ≤ N) : ∀ r i s t v fuel, i + r = CS.length → zbst v s → zx (zlf n ls m) (CS.drop i) s = some t → r < fuel → ∃ w, f_X5_suits_L6 N (nI m) a fuel v (nI i) = some w ∧ zbst w t := by
  intro r
  have hlen := hcs.2.1
  induction r with
  | zero =>
    intro i s t v fuel hi hs hx hf
    obtain ⟨fu, rfl⟩ : ∃ fu, fuel = fu + 1 := ⟨fuel - 1, by omega⟩
    rw [List.drop_eq_nil_of_le (by omega), zx] at hx
    rw [f_X5_suits_L6, hcs.1, if_pos (nI_le (by omega) (by omega))]
    exact ⟨v, rfl, Option.some.inj hx ▸ hs⟩
  | succ r ih =>
    intro i s t v fuel hi hs hx hf
    obtain ⟨fu, rfl⟩ : ∃ fu, fuel = fu + 1 := ⟨fuel - 1, by omega⟩
    have hlt : i < CS.length := by omega
    rw [zdropc hlt, zx] at hx
    obtain ⟨c1, c2, c3⟩ := hcs.2.2 i hlt
    have hvi := hv _ (zgp_mem hlt)
    generalize hq : CS.getD i (0, 0) = q at hx c1 c2 c3 hvi
    obtain ⟨k, x⟩ := q
    dsimp only at hx c1 c2 c3
    obtain ⟨s2, hx1, hx2⟩ := Option.bind_eq_some_iff.mp hx
    have hxi := z_xin (k := i) (n := 120) (by omega) (by decide)
    rw [f_X5_suits_L6, hcs.1, if_neg (nI_ge (by omega) (by omega)), if_pos hxi, if_pos hxi, if_pos hxi]
    simp only [nI_clamp (show i < 2 ^ 31 by omega), c1, nI_1]
    by_cases k0 : k = 0
    · subst k0
      obtain ⟨y, x', r', rfl, rfl⟩ := zs1_or hx1
      rw [if_neg (show ¬ nI (zk7 0) = 7 by decide), if_neg (show ¬ nI (zk7 0) = 8 by decide), if_pos (show nI (zk7 0) = 9 from rfl), z_sbind]
      exact ih (i + 1) _ t _ fu (by omega) (zbst_or hs) hx2 (by omega)
    by_cases k1 : k = 1
    · subst k1
      obtain ⟨y, x', r', rfl, rfl⟩ := zs1_and hx1
      rw [if_neg (show ¬ nI (zk7 1) = 7 by decide), if_pos (show nI (zk7 1) = 8 from rfl), z_sbind]
      exact ih (i + 1) _ t _ fu (by omega) (zbst_and hs) hx2 (by omega)
    by_cases k2 : k = 2
    · subst k2
      obtain ⟨y, r', rfl, rfl⟩ := zs1_not hx1
      rw [if_pos (show nI (zk7 2) = 7 from rfl)]
      exact ih (i + 1) _ t _ fu (by omega) (zbst_not hs) hx2 (by omega)
    have hk : 3 ≤ k := by omega
    have h6 := zk7_ge hk
    obtain ⟨hl, rfl⟩ := zs1_leaf hk hx1
    rw [if_neg (fun z => by rw [show (7 : Int32) = nI 7 from rfl, nI_eq (by omega) (by omega)] at z; omega), if_neg (fun z => by rw [show (8 : Int32) = nI 8 from rfl, nI_eq (by omega) (by omega)] at z; omega), if_neg (fun z => by rw [show (9 : Int32) = nI 9 from rfl, nI_eq (by omega) (by omega)] at z; omega), f5_passes h hn hls hm hvi hk (by omega) c1 c2 c3 hN, z_sbind]
    have hpu := zbst_push (zlf n ls m k x) hs hl
    cases hb : zlf n ls m k x with
    | true =>
      rw [hb] at hpu hx2
      rw [if_neg (show ¬ bI true = 0 by decide)]
      exact ih (i + 1) _ t _ fu (by omega) hpu hx2 (by omega)
    | false =>
      rw [hb] at hpu hx2
      rw [if_pos (show bI false = 0 from rfl)]
      exact ih (i + 1) _ t _ fu (by omega) hpu hx2 (by omega)
theorem f5_suits {a : xT} {n m N : Nat} {ls : Nat → List Nat} {CS : List (Nat × Nat)} {w : Bool} (h : gI a 0 = nI n) (hn : n ≤ 12) (hls : ∀ j, j < 6 → zlA a j (ls j)) (hm : m < 2 ^ n) (hcs : zcs a CS) (hv : ∀ i ∈ CS, zvd i) (hx : zx (zlf n ls m) CS [] = some [w]) (hN : 200 ≤ N) : f_X5_suits N (nI m) a = some (bI w) := by
  have hlen := hcs.2.1
  obtain ⟨u, e1, e2⟩ := f5_suits_loop (N := N) h hn hls hm hcs hv hN CS.length 0 [] [w] 0 N (by omega) zbst_0 hx (by omega)
  unfold f_X5_suits
  rw [show (0 : Int32) = nI 0 from rfl, e1, z_sbind]
  have hb : zbit (u &&& 1) 0 = w := by rw [zbit_and, e2.2 0 (by decide), zbit_one 0 (by decide)]; cases w <;> rfl
  cases w with
  | true =>
    rw [if_neg (fun z => by rw [z, zbit_zero] at hb; cases hb)]; rfl
  | false =>
    rw [if_pos ?_]; · rfl
    have : ∀ j, j < 64 → zbit (u &&& 1) j = false := fun j hj => by
      rw [zbit_and, zbit_one j hj]
      cases j with
      | zero => rw [e2.2 0 (by decide)]; rfl
      | succ j => rw [decide_eq_false (by omega), Bool.and_false]
    apply Int64.toBitVec_inj.mp
    apply BitVec.eq_of_getLsbD_eq
    intro j hj
    rw [show (u &&& 1).toBitVec.getLsbD j = false from this j hj]
    exact (zbit_zero j).symm
