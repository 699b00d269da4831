/-! the class's steps and levels -/
theorem vn_0 : vp_nar .boolean 0 = 0 := by decide
theorem vn_1 : vp_nar .boolean 1 = 1 := by decide
def zk7 (k : Nat) : Nat := if k = 0 then 9 else if k = 1 then 8 else if k = 2 then 7 else if k = 3 then 1 else if k = 4 then 2 else if k = 5 then 3 else if k = 6 then 4 else if k = 7 then 5 else 6
def znm (i : Nat × Nat) : Nat := if i.1 = 4 then i.2 / 100 else i.2
def zdv (i : Nat × Nat) : Nat := if i.1 = 4 then i.2 % 100 else 0
def zcs (a : xT) (CS : List (Nat × Nat)) : Prop := gI a 9 = nI CS.length ∧ CS.length ≤ 120 ∧ ∀ i, i < CS.length → gA a 9 i = nI (zk7 (CS.getD i (0, 0)).1) ∧ gA a 10 i = nI (znm (CS.getD i (0, 0))) ∧ gA a 11 i = nI (zdv (CS.getD i (0, 0)))
theorem zgp_app {L : List (Nat × Nat)} {m : Nat × Nat} {i : Nat} (h : i < L.length) : (L ++ [m]).getD i (0, 0) = L.getD i (0, 0) := by
  simp [List.getD, List.getElem?_append_left h]
def zfu (a a2 : xT) : Prop := (∀ j, j ≠ 9 → gI a2 j = gI a j) ∧ (∀ c j, c ≠ 9 → c ≠ 10 → c ≠ 11 → gA a2 c j = gA a c j) ∧ ∀ c j, gB a2 c j = gB a c j
theorem zfu_refl (a : xT) : zfu a a := ⟨fun _ _ => rfl, fun _ _ _ _ _ => rfl, fun _ _ => rfl⟩
theorem zfu_tr {a b c : xT} (h : zfu a b) (g : zfu b c) : zfu a c := ⟨fun j hj => (g.1 j hj).trans (h.1 j hj), fun x j h1 h2 h3 => (g.2.1 x j h1 h2 h3).trans (h.2.1 x j h1 h2 h3), fun x j => (g.2.2 x j).trans (h.2.2 x j)⟩
theorem zfu_p {a a2 : xT} (h : zfu a a2) : zfp a a2 := ⟨fun j hj => h.1 j (by omega), fun c j hc => h.2.1 c j (by omega) (by omega) (by omega), h.2.2⟩
theorem f5_put {a : xT} {CS : List (Nat × Nat)} {k x : Nat} (h : zcs a CS) (hl : CS.length < 120) : ∃ a2, f_X5_put (nI (zk7 k)) (nI (znm (k, x))) (nI (zdv (k, x))) a = some a2 ∧ zcs a2 (CS ++ [(k, x)]) ∧ zfu a a2 := by
  have hx := z_xin (k := CS.length) (n := 120) hl (by decide)
  unfold f_X5_put
  rw [h.1, if_neg (show ¬ (120 : Int32) ≤ nI CS.length from nI_ge (b := 120) hl (by decide)), if_pos hx, if_pos hx, if_pos hx, nI_clamp (by omega), nI_1]
  refine ⟨_, rfl, ⟨?_, ?_, fun i hi => ?_⟩, fun j hj => ?_, fun c j h1 h2 h3 => ?_, fun c j => rfl⟩
  · rw [gI_sI, if_pos rfl, List.length_append, List.length_singleton]
  · rw [List.length_append, List.length_singleton]; omega
  · rw [List.length_append, List.length_singleton] at hi
    rw [gA_sI, gA_sA, if_neg (by decide), gA_sA, if_neg (by decide), gA_sA, if_pos rfl, gA_sI, gA_sA, if_neg (by decide), gA_sA, if_pos rfl, gA_sI, gA_sA, if_pos rfl, upd_at, upd_at, upd_at]
    by_cases e : i = CS.length
    · rw [if_pos e, if_pos e, if_pos e, e]
      simp
    · rw [if_neg e, if_neg e, if_neg e, zgp_app (by omega)]
      exact h.2.2 i (by omega)
  · rw [gI_sI, if_neg hj]; rfl
  · rw [gA_sI, gA_sA, if_neg h3, gA_sA, if_neg h2, gA_sA, if_neg h1]
def zln (a : xT) : Prop := ∃ len, len ≤ 120 ∧ gI a 9 = nI len
theorem f5_putT {a : xT} (v1 v2 v3 : Int32) (h : zln a) : ∃ a2, f_X5_put v1 v2 v3 a = some a2 ∧ zln a2 ∧ zfu a a2 := by
  obtain ⟨len, h1, h2⟩ := h
  unfold f_X5_put
  rw [h2]
  by_cases c : 120 ≤ len
  · rw [if_pos (show (120 : Int32) ≤ nI len from nI_le (a := 120) c (by omega))]
    exact ⟨a, rfl, ⟨len, h1, h2⟩, zfu_refl a⟩
  · have hx := z_xin (k := len) (n := 120) (by omega) (by decide)
    rw [if_neg (show ¬ (120 : Int32) ≤ nI len from nI_ge (b := 120) (by omega) (by decide)), if_pos hx, if_pos hx, if_pos hx, nI_1]
    refine ⟨_, rfl, ⟨len + 1, by omega, by rw [gI_sI, if_pos rfl]⟩, fun j hj => ?_, fun c j h3 h4 h5 => ?_, fun c j => rfl⟩
    · rw [gI_sI, if_neg hj]; rfl
    · rw [gA_sI, gA_sA, if_neg h5, gA_sA, if_neg h4, gA_sA, if_neg h3]
/-- the flags of a level: not, and, or -/
def zf1 (a : xT) (i : Nat) (inv bo e : Bool) : Prop := gA a 12 i = bI inv ∧ gA a 13 i = bI bo ∧ gA a 14 i = bI e
def zfg (a : xT) : List zLv → Prop
  | [] => True
  | l :: P => zf1 a P.length (zod l.2.2) l.2.1 l.1 ∧ zfg a P
theorem zfg_keep {a a2 : xT} : ∀ {P : List zLv}, zfg a P → (∀ c j, (c = 12 ∨ c = 13 ∨ c = 14) → j < P.length → gA a2 c j = gA a c j) → zfg a2 P
  | [], _, _ => trivial
  | l :: P, h, g => ⟨⟨(g 12 _ (Or.inl rfl) (by simp)).trans h.1.1, (g 13 _ (Or.inr (Or.inl rfl)) (by simp)).trans h.1.2.1, (g 14 _ (Or.inr (Or.inr rfl)) (by simp)).trans h.1.2.2⟩, zfg_keep h.2 (fun c j hc hj => g c j hc (by rw [List.length_cons]; omega))⟩
theorem zf1_u {a a2 : xT} {i : Nat} {x y z : Bool} (h : zf1 a i x y z) (f : zfu a a2) : zf1 a2 i x y z := ⟨(f.2.1 12 i (by decide) (by decide) (by decide)).trans h.1, (f.2.1 13 i (by decide) (by decide) (by decide)).trans h.2.1, (f.2.1 14 i (by decide) (by decide) (by decide)).trans h.2.2⟩
theorem f5_end {a : xT} {CS : List (Nat × Nat)} {i : Nat} {x y e : Bool} (h : zcs a CS) (h12 : gI a 12 = nI i) (hi : i ≤ 4) (hf : zf1 a i x y e) (hl : CS.length + e.toNat ≤ 120) : ∃ a2, f_X5_end a = some a2 ∧ zcs a2 (CS ++ zeO e) ∧ zfu a a2 := by
  unfold f_X5_end
  rw [h12, if_pos (z_xin (by omega) (by decide)), nI_clamp (by omega), hf.2.2]
  cases e with
  | false =>
    rw [if_pos (by decide)]
    exact ⟨a, rfl, by simpa [zeO] using h, zfu_refl a⟩
  | true =>
    rw [if_neg (by decide)]
    obtain ⟨a2, w1, w2, w3⟩ := f5_put (k := 0) (x := 0) h (by simp at hl; omega)
    rw [show nI (zk7 0) = (9 : Int32) from rfl, show nI (znm (0, 0)) = (0 : Int32) from rfl, show nI (zdv (0, 0)) = (0 : Int32) from rfl] at w1
    rw [w1]
    exact ⟨a2, rfl, w2, w3⟩
theorem f5_endT {a : xT} {i : Nat} (h : zln a) (h12 : gI a 12 = nI i) (hi : i ≤ 4) : ∃ a2, f_X5_end a = some a2 ∧ zln a2 ∧ zfu a a2 := by
  unfold f_X5_end
  rw [h12, if_pos (z_xin (by omega) (by decide))]
  by_cases c : gA a 14 (Int32.toNatClampNeg (nI i)) = 0
  · rw [if_pos c]; exact ⟨a, rfl, h, zfu_refl a⟩
  · rw [if_neg c]
    obtain ⟨a2, w1, w2, w3⟩ := f5_putT 9 0 0 h
    rw [w1]; exact ⟨a2, rfl, w2, w3⟩
/-- what the end of a test leaves as it was -/
def zfe2 (i : Nat) (a a2 : xT) : Prop := (∀ j, j ≠ 9 → j ≠ 13 → gI a2 j = gI a j) ∧ (∀ c j, (c < 9 ∨ 14 ≤ c) → gA a2 c j = gA a c j) ∧ (∀ c j, (c = 12 ∨ c = 13) → j ≠ i → gA a2 c j = gA a c j) ∧ ∀ c j, gB a2 c j = gB a c j
theorem f5_endTest {a : xT} {CS : List (Nat × Nat)} {i : Nat} {inv bo e : Bool} (h : zcs a CS) (h12 : gI a 12 = nI i) (hi : i ≤ 4) (hf : zf1 a i inv bo e) (hl : CS.length + inv.toNat + bo.toNat ≤ 120) : ∃ a2, f_X5_endTest a = some a2 ∧ zcs a2 (CS ++ (zeI inv ++ zeA bo)) ∧ zf1 a2 i false false e ∧ gI a2 13 = 0 ∧ zfe2 i a a2 := by
  have hx := z_xin (k := i) (n := 5) (by omega) (by decide)
  have second : ∀ a1 : xT, zcs a1 (CS ++ zeI inv) → zf1 a1 i false bo e → gI a1 12 = nI i → zfe2 i a a1 → ∃ a2, (if gA a1 13 (Int32.toNatClampNeg (nI i)) = 0 then some (sI a1 13 0) else (f_X5_put 8 0 0 a1).bind (fun q47 => if xin (gI q47 12) 5 then some (sI (sA q47 13 (upd (gA q47 13) (Int32.toNatClampNeg (gI q47 12)) (vp_nar .boolean 0))) 13 0) else none)) = some a2 ∧ zcs a2 (CS ++ (zeI inv ++ zeA bo)) ∧ zf1 a2 i false false e ∧ gI a2 13 = 0 ∧ zfe2 i a a2 := by
    intro a1 k1 k2 k3 k4
    rw [nI_clamp (by omega), k2.2.1]
    cases bo with
    | false =>
      rw [if_pos (by decide)]
      have k1' : zcs a1 (CS ++ (zeI inv ++ zeA false)) := by simpa [zeA] using k1
      refine ⟨_, rfl, k1', k2, rfl, fun j h1 h2 => ?_, k4.2.1, k4.2.2.1, k4.2.2.2⟩
      rw [gI_sI, if_neg h2]; exact k4.1 j h1 h2
    | true =>
      rw [if_neg (by decide)]
      have hlen : (CS ++ zeI inv).length < 120 := by
        rw [List.length_append]
        cases inv <;> simp [zeI] at hl ⊢ <;> omega
      obtain ⟨a2, w1, w2, w3⟩ := f5_put (k := 1) (x := 0) k1 hlen
      rw [show nI (zk7 1) = (8 : Int32) from rfl, show nI (znm (1, 0)) = (0 : Int32) from rfl, show nI (zdv (1, 0)) = (0 : Int32) from rfl] at w1
      have e12 : gI a2 12 = nI i := (w3.1 12 (by decide)).trans k3
      rw [w1, z_sbind, e12, if_pos hx, nI_clamp (by omega), vn_0]
      have k5 := zf1_u k2 w3
      refine ⟨_, rfl, ?_, ⟨k5.1, ?_, k5.2.2⟩, rfl, fun j h1 h2 => ?_, fun c j hc => ?_, fun c j hc hj => ?_, fun c j => ?_⟩
      · rw [List.append_assoc] at w2
        exact w2
      · rw [gA_sI, gA_sA, if_pos rfl, upd_at, if_pos rfl]; rfl
      · rw [gI_sI, if_neg h2]
        exact (w3.1 j h1).trans (k4.1 j h1 h2)
      · rw [gA_sI, gA_sA, if_neg (by omega)]
        exact (w3.2.1 c j (by omega) (by omega) (by omega)).trans (k4.2.1 c j hc)
      · rw [gA_sI, gA_sA]
        by_cases c13 : c = 13
        · subst c13
          rw [if_pos rfl, upd_at, if_neg hj]
          exact (w3.2.1 13 j (by decide) (by decide) (by decide)).trans (k4.2.2.1 13 j (Or.inr rfl) hj)
        · rw [if_neg c13]
          exact (w3.2.1 c j (by omega) (by omega) (by omega)).trans (k4.2.2.1 c j hc hj)
      · exact (w3.2.2 c j).trans (k4.2.2.2 c j)
  unfold f_X5_endTest
  rw [h12, if_pos hx, if_pos hx]
  cases inv with
  | false =>
    rw [if_pos (show gA a 12 (Int32.toNatClampNeg (nI i)) = 0 by rw [nI_clamp (by omega), hf.1]; rfl)]
    exact second a (by simpa [zeI] using h) hf h12 ⟨fun _ _ _ => rfl, fun _ _ _ => rfl, fun _ _ _ _ => rfl, fun _ _ => rfl⟩
  | true =>
    rw [if_neg (show ¬ gA a 12 (Int32.toNatClampNeg (nI i)) = 0 by rw [nI_clamp (by omega), hf.1]; decide)]
    obtain ⟨a1, w1, w2, w3⟩ := f5_put (k := 2) (x := 0) h (by simp at hl; omega)
    rw [show nI (zk7 2) = (7 : Int32) from rfl, show nI (znm (2, 0)) = (0 : Int32) from rfl, show nI (zdv (2, 0)) = (0 : Int32) from rfl] at w1
    have e12 : gI a1 12 = nI i := (w3.1 12 (by decide)).trans h12
    have k5 := zf1_u hf w3
    rw [w1, z_sbind, e12, if_pos hx, if_pos hx]
    obtain ⟨a2, s1, s2⟩ := second (sA a1 12 (upd (gA a1 12) i 0)) w2 ⟨by rw [gA_sA, if_pos rfl, upd_at, if_pos rfl]; rfl, k5.2.1, k5.2.2⟩ e12 ⟨fun j h1 _ => w3.1 j h1, fun c j hc => by rw [gA_sA, if_neg (by omega)]; exact w3.2.1 c j (by omega) (by omega) (by omega), fun c j hc hj => by
      rw [gA_sA]
      by_cases c12 : c = 12
      · subst c12
        rw [if_pos rfl, upd_at, if_neg hj]
        exact w3.2.1 12 j (by decide) (by decide) (by decide)
      · rw [if_neg c12]
        exact w3.2.1 c j (by omega) (by omega) (by omega), w3.2.2⟩
    refine ⟨a2, ?_, s2⟩
    rw [vn_0, nI_clamp (by omega)]
    rw [nI_clamp (by omega)] at s1
    exact s1
theorem f5_endTestT {a : xT} {i : Nat} (h : zln a) (h12 : gI a 12 = nI i) (hi : i ≤ 4) : ∃ a2, f_X5_endTest a = some a2 ∧ zln a2 ∧ (∀ j, j ≠ 9 → j ≠ 13 → gI a2 j = gI a j) ∧ zfp a a2 := by
  have hx := z_xin (k := i) (n := 5) (by omega) (by decide)
  have fin : ∀ a1 : xT, zln a1 → gI a1 12 = nI i → (∀ j, j ≠ 9 → j ≠ 13 → gI a1 j = gI a j) → zfp a a1 → ∃ a2, (if gA a1 13 (Int32.toNatClampNeg (nI i)) = 0 then some (sI a1 13 0) else (f_X5_put 8 0 0 a1).bind (fun q47 => if xin (gI q47 12) 5 then some (sI (sA q47 13 (upd (gA q47 13) (Int32.toNatClampNeg (gI q47 12)) (vp_nar .boolean 0))) 13 0) else none)) = some a2 ∧ zln a2 ∧ (∀ j, j ≠ 9 → j ≠ 13 → gI a2 j = gI a j) ∧ zfp a a2 := by
    intro a1 k1 k2 k3 k4
    by_cases c : gA a1 13 (Int32.toNatClampNeg (nI i)) = 0
    · rw [if_pos c]
      obtain ⟨len, l1, l2⟩ := k1
      refine ⟨_, rfl, ⟨len, l1, l2⟩, fun j h1 h2 => by rw [gI_sI, if_neg h2]; exact k3 j h1 h2, fun j hj => ?_, k4.2.1, k4.2.2⟩
      rw [gI_sI, if_neg (by omega)]; exact k4.1 j hj
    · rw [if_neg c]
      obtain ⟨a2, w1, ⟨len, l1, l2⟩, w3⟩ := f5_putT 8 0 0 k1
      have e12 : gI a2 12 = nI i := (w3.1 12 (by decide)).trans k2
      rw [w1, z_sbind, e12, if_pos hx]
      refine ⟨_, rfl, ⟨len, l1, l2⟩, fun j h1 h2 => ?_, fun j hj => ?_, fun c j hc => ?_, fun c j => (w3.2.2 c j).trans (k4.2.2 c j)⟩
      · rw [gI_sI, if_neg h2]; exact (w3.1 j h1).trans (k3 j h1 h2)
      · rw [gI_sI, if_neg (by omega)]; exact (w3.1 j (by omega)).trans (k4.1 j hj)
      · rw [gA_sI, gA_sA, if_neg (by omega)]; exact (w3.2.1 c j (by omega) (by omega) (by omega)).trans (k4.2.1 c j hc)
  unfold f_X5_endTest
  rw [h12, if_pos hx, if_pos hx]
  by_cases c : gA a 12 (Int32.toNatClampNeg (nI i)) = 0
  · rw [if_pos c]
    exact fin a h h12 (fun _ _ _ => rfl) (zfp_refl a)
  · rw [if_neg c]
    obtain ⟨a1, w1, w2, w3⟩ := f5_putT 7 0 0 h
    have e12 : gI a1 12 = nI i := (w3.1 12 (by decide)).trans h12
    rw [w1, z_sbind, e12, if_pos hx, if_pos hx]
    have hr := zfu_p w3
    exact fin (sA a1 12 (upd (gA a1 12) (Int32.toNatClampNeg (nI i)) (vp_nar .boolean 0))) w2 e12 (fun j h1 _ => w3.1 j h1) ⟨hr.1, fun c j hc => by rw [gA_sA, if_neg (by omega)]; exact hr.2.1 c j hc, hr.2.2⟩
/-! the reference's steps and what waits -/
def zrs (b : xT) (RS : List (Nat × Nat)) : Prop := gI b 20 = nI RS.length ∧ ∀ i, i < RS.length → gA b 53 i = nI (RS.getD i (0, 0)).1 ∧ ((RS.getD i (0, 0)).1 = 7 ∨ gA b 54 i = nI (RS.getD i (0, 0)).2)
def zwv (b : xT) : List Nat → Prop
  | [] => True
  | w :: V => gA b 55 V.length = nI w ∧ zwv b V
theorem zwv_keep {b b2 : xT} : ∀ {V : List Nat}, zwv b V → (∀ j, j < V.length → gA b2 55 j = gA b 55 j) → zwv b2 V
  | [], _, _ => trivial
  | w :: V, h, g => ⟨(g _ (by simp)).trans h.1, zwv_keep h.2 (fun j hj => g j (by rw [List.length_cons]; omega))⟩
def zwb (b : xT) (V : List Nat) : Prop := gI b 23 = nI V.length ∧ zwv b V
theorem f8_step {b : xT} {RS : List (Nat × Nat)} {k x : Nat} {v : Int32} (h : zrs b RS) (hl : RS.length < 130) (hv : k = 7 ∨ v = nI x) : ∃ b2, f_X8_step (nI k) v b = some b2 ∧ zrs b2 (RS ++ [(k, x)]) ∧ (∀ j, j ≠ 20 → gI b2 j = gI b j) ∧ ∀ c j, c ≠ 53 → c ≠ 54 → gA b2 c j = gA b c j := by
  have hx := z_xin (k := RS.length) (n := 130) hl (by decide)
  unfold f_X8_step
  rw [h.1, if_pos hx, if_pos hx, nI_clamp (by omega), nI_1]
  refine ⟨_, rfl, ⟨?_, fun i hi => ?_⟩, fun j hj => ?_, fun c j h1 h2 => ?_⟩
  · rw [gI_sI, if_pos rfl, List.length_append, List.length_singleton]
  · rw [List.length_append, List.length_singleton] at hi
    rw [gA_sI, gA_sA, if_neg (by decide), gA_sA, if_pos rfl, gA_sI, gA_sA, if_pos rfl, upd_at, upd_at]
    by_cases e : i = RS.length
    · rw [if_pos e, if_pos e, e]
      simp only [List.getD, List.getElem?_append_right (Nat.le_refl _), Nat.sub_self, List.getElem?_cons_zero, Option.getD_some]
      exact ⟨trivial, hv⟩
    · rw [if_neg e, if_neg e, zgp_app (by omega)]
      exact h.2 i (by omega)
  · rw [gI_sI, if_neg hj]; rfl
  · rw [gA_sI, gA_sA, if_neg h2, gA_sA, if_neg h1]
theorem f8_hold {b : xT} {V : List Nat} {w : Nat} (h : zwb b V) (hl : V.length < 130) : ∃ b2, f_X8_hold (nI w) b = some b2 ∧ zwb b2 (w :: V) ∧ (∀ j, j ≠ 23 → gI b2 j = gI b j) ∧ ∀ c j, c ≠ 55 → gA b2 c j = gA b c j := by
  unfold f_X8_hold
  rw [h.1, if_pos (z_xin hl (by decide)), nI_clamp (by omega), nI_1]
  refine ⟨_, rfl, ⟨?_, ?_, zwv_keep h.2 (fun j hj => ?_)⟩, fun j hj => ?_, fun c j hc => ?_⟩
  · rw [gI_sI, if_pos rfl, List.length_cons]
  · rw [gA_sI, gA_sA, if_pos rfl, upd_at, if_pos rfl]
  · rw [gA_sI, gA_sA, if_pos rfl, upd_at, if_neg (by omega)]
  · rw [gI_sI, if_neg hj]; rfl
  · rw [gA_sI, gA_sA, if_neg hc]
theorem f8_work_loop {ls : Nat} {R : List Nat} (hls : ls ≤ 2) (hR : R = [] ∨ ∃ r R', R = r :: R' ∧ r ≤ 3 ∧ (r = 3 ∨ r < ls)) : ∀ (X : List Nat) b RS fuel, zwb b (X ++ R) → zrs b RS → (∀ x ∈ X, x < 3 ∧ ls ≤ x) → (X ++ R).length ≤ 130 → RS.length + X.length ≤ 130 → X.length < fuel → ∃ b2, f_X8_work_L0 (nI ls) fuel b = some b2 ∧ zwb b2 R ∧ zrs b2 (RS ++ X.map (fun x => (x, 0))) ∧ (∀ j, j ≠ 20 → j ≠ 23 → gI b2 j = gI b j) ∧ ∀ c j, c ≠ 53 → c ≠ 54 → gA b2 c j = gA b c j := by
  intro X
  induction X with
  | nil =>
    intro b RS fuel hw hr hX hl1 hl2 hf
    obtain ⟨fu, rfl⟩ : ∃ fu, fuel = fu + 1 := ⟨fuel - 1, by omega⟩
    rw [List.nil_append] at hw hl1
    refine ⟨b, ?_, hw, by simpa using hr, fun _ _ _ => rfl, fun _ _ _ _ => rfl⟩
    rw [f_X8_work_L0, hw.1]
    rcases hR with e | ⟨r, R', e, h3, h4⟩
    · rw [e, if_pos (by decide)]
    · subst e
      rw [List.length_cons] at hl1
      have e1 : nI (r :: R').length - 1 = nI R'.length := by rw [List.length_cons]; exact pk_sub (b := 1) (by omega)
      have hx := z_xin (k := R'.length) (n := 130) (by omega) (by decide)
      rw [if_neg (show ¬ nI (r :: R').length ≤ (0 : Int32) from nI_ge (a := 0) (by rw [List.length_cons]; omega) (by rw [List.length_cons]; omega)), e1]
      simp only [if_pos hx, nI_clamp (show R'.length < 2 ^ 31 by omega), hw.2.1]
      by_cases c : r = 3
      · rw [if_pos (by rw [c]; rfl)]
      · rw [if_neg (fun z => c ((nI_eq3 (by omega)).mp z)), if_pos (nI_lt (h4.resolve_left c) (by omega))]
  | cons x X ih =>
    intro b RS fuel hw hr hX hl1 hl2 hf
    obtain ⟨fu, rfl⟩ : ∃ fu, fuel = fu + 1 := ⟨fuel - 1, by omega⟩
    obtain ⟨x1, x2⟩ := hX x List.mem_cons_self
    rw [List.cons_append] at hw hl1
    rw [List.length_cons] at hl1 hl2 hf
    have e1 : nI (x :: (X ++ R)).length - 1 = nI (X ++ R).length := by rw [List.length_cons]; exact pk_sub (b := 1) (by omega)
    have hx := z_xin (k := (X ++ R).length) (n := 130) (by omega) (by decide)
    rw [f_X8_work_L0, hw.1, if_neg (show ¬ nI (x :: (X ++ R)).length ≤ (0 : Int32) from nI_ge (a := 0) (by rw [List.length_cons]; omega) (by rw [List.length_cons]; omega)), e1]
    simp only [if_pos hx, nI_clamp (show (X ++ R).length < 2 ^ 31 by omega), hw.2.1]
    rw [if_neg (fun z => by rw [nI_eq3 (by omega)] at z; omega), if_neg (nI_nlt x2 (by omega))]
    obtain ⟨b1, w1, w2, w3, w4⟩ := f8_step (b := sI b 23 (nI (X ++ R).length)) (k := x) (x := 0) (v := 0) hr (by omega) (Or.inr rfl)
    rw [w1, z_sbind]
    obtain ⟨b2, u1, u2, u3, u4, u5⟩ := ih b1 (RS ++ [(x, 0)]) fu ⟨by rw [w3 23 (by decide), gI_sI, if_pos rfl], zwv_keep hw.2.2 (fun j _ => w4 55 j (by decide) (by decide))⟩ w2 (fun y hy => hX y (List.mem_cons_of_mem _ hy)) (by omega) (by rw [List.length_append, List.length_singleton]; omega) (by omega)
    refine ⟨b2, u1, u2, ?_, fun j h1 h2 => ?_, fun c j h1 h2 => (u5 c j h1 h2).trans (w4 c j h1 h2)⟩
    · rw [List.append_assoc] at u3
      exact u3
    · rw [u4 j h1 h2, w3 j h1, gI_sI, if_neg h2]
