/-! the whole text, on both sides -/
theorem f8_leaf_none {b : xT} {N : Nat} (h : ∀ j, j < 10 → ¬ gJ b 17 = nJ (zwn (zwd j))) : f_X8_readLeaf N b = some (1, sI b 15 (gI b 16)) := by
  unfold f_X8_readLeaf f_X8_fails
  rw [zcd_pins, zcd_sum, zcd_has, zcd_runs, zcd_turns, zcd_in]
  simp only [z_sbind]
  rw [if_neg (h 2 (by decide)), if_neg (h 1 (by decide)), if_neg (h 3 (by decide)), if_neg (h 4 (by decide)), if_neg (h 6 (by decide)), if_neg (h 5 (by decide))]
theorem z_endE {b : xT} {T : Nat → Nat} {tl p N : Nat} (hB : ztB b T tl) (h16 : gI b 16 = nI p) (hp : p ≤ tl) (hE : ¬ zskp T tl p < tl) (hN : 200 ≤ N) : (∃ b2, f_X8_readOne N b = some (1, b2) ∧ gI b2 15 = nI (zskp T tl p) ∧ zfq b b2) ∧ ∃ b2, f_X8_readBehind N b = some (1, b2) ∧ gI b2 15 = nI (zskp T tl p) ∧ zfq b b2 := by
  have hskp := zskp_rng (T := T) hp
  obtain ⟨b1, w1, w2, w3, w4, w5, w6, w7⟩ := f8_word (N := N) hB h16 hp hN
  have hB1 : ztB b1 T tl := ⟨(w5 14 (by decide) (by decide)).trans hB.1, hB.2.1, fun j hj => by rw [w6]; exact hB.2.2 j hj⟩
  obtain ⟨b2, r1, r2, r3, r4, r5⟩ := f8_here (N := N) hB1 w2 (by omega) hN
  rw [zskp_skp hp] at r1 r2
  rw [if_neg hE] at r1
  have hno : ∀ j, j < 10 → ¬ zwt T tl p = zwd j := fun j hj hw => by
    have htk := zwt_tk hj hw
    unfold ztk at htk
    rw [if_neg hE] at htk
    cases htk
  have n1 : ∀ j, j < 10 → ¬ gJ b1 17 = nJ (zwn (zwd j)) := fun j hj z => hno j hj ((z_same hp hj w4).mp z)
  have n2 : ∀ j, j < 10 → ¬ gJ b2 17 = nJ (zwn (zwd j)) := fun j hj => by rw [r5]; exact n1 j hj
  have fq2 : zfq b (sI b2 15 (gI b2 16)) := ⟨fun j hj => by rw [gI_sI, if_neg (by omega), r3 j (by omega), w5 j (by omega) (by omega)], fun c j _ => by rw [gA_sI, r4, w6]⟩
  constructor
  · refine ⟨sI b2 15 (gI b2 16), ?_, by rw [gI_sI, if_pos rfl]; exact r2, fq2⟩
    unfold f_X8_readOne
    rw [w1, z_sbind, zcd_not, z_sbind, if_neg (n1 0 (by decide)), r1, z_sbind]
    simp only []
    rw [if_neg (by decide), f8_leaf_none n2]
    rfl
  · refine ⟨sI b2 15 (gI b2 16), ?_, by rw [gI_sI, if_pos rfl]; exact r2, fq2⟩
    unfold f_X8_readBehind f_X8_fails
    rw [w1, z_sbind, zcd_and, z_sbind, if_neg (n1 7 (by decide)), zcd_or, z_sbind, if_neg (n1 8 (by decide)), r1, z_sbind]
    simp only []
    rw [if_neg (by decide)]
    rfl
theorem zJ_here {a b : xT} {T : Nat → Nat} {tl p N : Nat} {CS RS : List (Nat × Nat)} {P : List zLv} {l : zLv} {aw : Bool} (h : zJ T tl a b p P l aw CS RS) (hN : 200 ≤ N) : ∃ b2, f_X8_here N b = some (if zskp T tl p < tl then nI (T (zskp T tl p)) else -1, b2) ∧ zJ T tl a b2 (zskp T tl p) P l aw CS RS ∧ zfq b b2 := by
  obtain ⟨⟨hp, hA, hB, hz, h16⟩, ⟨h10, h11, h15⟩, ⟨h12, h25, hP4, h13, h26⟩, hfl, ⟨hcs, hrs, hwb⟩, ⟨hc1, hc2⟩, hr⟩ := h
  have hskp := zskp_rng (T := T) hp
  obtain ⟨b2, r1, r2, r3, r4, r5⟩ := f8_here (N := N) hB h16 hp hN
  refine ⟨b2, r1, ⟨⟨hskp.2, hA, ⟨(r3 14 (by decide)).trans hB.1, hB.2.1, fun j hj => by rw [r4]; exact hB.2.2 j hj⟩, ⟨by rw [zskp_skp hp]; exact hz.1, by rw [(ztk_skp hp).1]; exact hz.2.1, by rw [(ztk_skp hp).2]; exact hz.2.2⟩, r2⟩, ⟨h10, h11, (r3 15 (by decide)).trans h15⟩, ⟨h12, (r3 25 (by decide)).trans h25, hP4, h13, (r3 26 (by decide)).trans h26⟩, hfl, ⟨hcs, ⟨(r3 20 (by decide)).trans hrs.1, fun i hi => by rw [r4, r4]; exact hrs.2 i hi⟩, ⟨(r3 23 (by decide)).trans hwb.1, zwv_keep hwb.2 (fun j _ => r4 55 j)⟩⟩, ⟨by omega, by omega⟩, hr⟩, ⟨fun j hj => r3 j (by omega), fun c j _ => r4 c j⟩⟩
theorem f5_31_stop {a : xT} {N fu : Nat} (v : Int32) (h : ¬ gI a 10 = 0) : f_X5_parse_L31 N (fu + 1) v a = some a := by
  rw [f_X5_parse_L31]
  by_cases c1 : 120 ≤ v
  · rw [if_pos c1]
  · rw [if_neg c1]
    by_cases c2 : gI a 6 = 0
    · rw [if_pos c2]
    · rw [if_neg c2, if_neg h]
theorem f8_43_stop {b : xT} {N fu : Nat} (v1 v2 : Int32) (h : ¬ v2 = 0) : f_X8_read_L43 N v1 (fu + 1) v2 b = some (v2, b) := by
  rw [f_X8_read_L43, if_neg h]
def zout (a b a2 b2 : xT) (f st : Nat) : Prop := 1 ≤ f ∧ f ≤ 3 ∧ gI b2 15 = nI st ∧ zln a2 ∧ (∃ i, i ≤ 4 ∧ gI a2 12 = nI i) ∧ zfp a a2 ∧ zfq b b2 ∧ ((gI a2 10 = nI f ∧ gI a2 11 = nI st) ∨ (f = 1 ∧ gI a2 10 = 0 ∧ gI a2 7 = nI st ∧ (¬ gI a2 13 = 0 ∨ ¬ gI a2 12 ≤ 0)))
theorem z_pend {T : Nat → Nat} {tl N : Nat} (v1 : Int32) (hN : 200 ≤ N) {i p : Nat} {P : List zLv} {l : zLv} {aw : Bool} {CS RS : List (Nat × Nat)} {a b : xT} {f1 f2 : Nat} (hJ : zJ T tl a b p P l aw CS RS) (hE : ¬ zskp T tl p < tl) : (∃ a2 b2 p2 e bo CS2 RS2, f_X5_parse_L31 N (f1 + 1) (nI i) a = some a2 ∧ f_X8_read_L43 N v1 (f2 + 1 + 1) 0 b = some (0, b2) ∧ zJ T tl a2 b2 p2 [] (e, bo, 0) false CS2 RS2 ∧ zfp a a2 ∧ zfq b b2) ∨ ∃ a2 b2 f st, f_X5_parse_L31 N (f1 + 1) (nI i) a = some a2 ∧ f_X8_read_L43 N v1 (f2 + 1 + 1) 0 b = some (nI f, b2) ∧ zout a b a2 b2 f st := by
  obtain ⟨⟨hp, hA, hB, hz, h16⟩, ⟨h10, h11, h15⟩, ⟨h12, h25, hP4, h13, h26⟩, ⟨hf, hg, hk0⟩, ⟨hcs, hrs, hwb⟩, hrest⟩ := id hJ
  have h6 : gI a 6 = 0 := by
    rw [hz.2.1]
    unfold ztk
    rw [if_neg hE]; rfl
  have hcl : f_X5_parse_L31 N (f1 + 1) (nI i) a = some a := by
    rw [f_X5_parse_L31]
    by_cases c1 : (120 : Int32) ≤ nI i
    · rw [if_pos c1]
    · rw [if_neg c1, if_pos h6]
  obtain ⟨⟨b2, e1, e2, e3⟩, ⟨b3, g1, g2, g3⟩⟩ := z_endE (N := N) hB h16 hp hE hN
  rw [hcl, f_X8_read_L43, if_pos rfl, h26, h25]
  cases aw with
  | true =>
    right
    rw [if_neg (show ¬ bI true = 0 by decide), if_neg (show ¬ bI true = 0 by decide), e1, z_sbind]
    simp only []
    rw [f8_43_stop v1 1 (by decide)]
    exact ⟨a, b2, 1, zskp T tl p, rfl, rfl, by decide, by decide, e2, zln_of hcs, ⟨P.length, hP4, h12⟩, zfp_refl a, e3, Or.inr ⟨rfl, h10, hz.1, Or.inl (by rw [h13]; decide)⟩⟩
  | false =>
    rw [if_pos (show bI false = 0 from rfl)]
    cases P with
    | cons l2 P =>
      right
      have hpos : (0 : Int32) < nI (l2 :: P).length := nI_lt (a := 0) (by rw [List.length_cons]; omega) (by rw [List.length_cons] at hP4 ⊢; omega)
      rw [if_pos hpos, if_pos (show bI false = 0 from rfl), g1, z_sbind]
      simp only []
      rw [f8_43_stop v1 1 (by decide)]
      exact ⟨a, b3, 1, zskp T tl p, rfl, rfl, by decide, by decide, g2, zln_of hcs, ⟨(l2 :: P).length, hP4, h12⟩, zfp_refl a, g3, Or.inr ⟨rfl, h10, hz.1, Or.inr (by rw [h12]; exact nI_ge (a := 0) (by rw [List.length_cons]; omega) (by rw [List.length_cons] at hP4 ⊢; omega))⟩⟩
    | nil =>
      left
      obtain ⟨e, bo, k⟩ := l
      have hk : k = 0 := hk0 rfl
      subst hk
      obtain ⟨b4, m1, m2, m3⟩ := zJ_here (N := N) hJ hN
      rw [if_neg hE] at m1
      rw [if_neg (show ¬ (0 : Int32) < nI ([] : List zLv).length by decide), m1, z_sbind]
      simp only []
      rw [if_pos (show (-1 : Int32) < 0 by decide)]
      exact ⟨a, b4, _, e, bo, CS, RS, rfl, rfl, m2, zfp_refl a, m3⟩
theorem z_parse {T : Nat → Nat} {tl N : Nat} (v1 : Int32) (hN : 200 ≤ N) : ∀ r i p P l aw CS RS a b f1 f2, zJ T tl a b p P l aw CS RS → tl - p ≤ r → i ≤ p → r < f1 → r + 1 < f2 → (∃ a2 b2 p2 e bo CS2 RS2, f_X5_parse_L31 N f1 (nI i) a = some a2 ∧ f_X8_read_L43 N v1 f2 0 b = some (0, b2) ∧ zJ T tl a2 b2 p2 [] (e, bo, 0) false CS2 RS2 ∧ zfp a a2 ∧ zfq b b2) ∨ ∃ a2 b2 f st, f_X5_parse_L31 N f1 (nI i) a = some a2 ∧ f_X8_read_L43 N v1 f2 0 b = some (nI f, b2) ∧ zout a b a2 b2 f st := by
  intro r
  induction r with
  | zero =>
    intro i p P l aw CS RS a b f1 f2 hJ hr hi hf1 hf2
    obtain ⟨fu, rfl⟩ : ∃ fu, f1 = fu + 1 := ⟨f1 - 1, by omega⟩
    obtain ⟨gu, rfl⟩ : ∃ gu, f2 = gu + 1 + 1 := ⟨f2 - 2, by omega⟩
    have hskp := zskp_rng (T := T) hJ.1.1
    exact z_pend v1 hN hJ (by omega)
  | succ r ih =>
    intro i p P l aw CS RS a b f1 f2 hJ hr hi hf1 hf2
    obtain ⟨fu, rfl⟩ : ∃ fu, f1 = fu + 1 := ⟨f1 - 1, by omega⟩
    obtain ⟨gu, rfl⟩ : ∃ gu, f2 = gu + 1 + 1 := ⟨f2 - 2, by omega⟩
    by_cases hE : zskp T tl p < tl
    · obtain ⟨⟨hp, hA, hB, hz, h16⟩, ⟨h10, h11, h15⟩, ⟨h12, h25, hP4, h13, h26⟩, ⟨hf, hg, hk0⟩, ⟨hcs, hrs, hwb⟩, hrest⟩ := id hJ
      have h120 := hA.2.1
      have hskp := zskp_rng (T := T) hp
      have h6 : ¬ gI a 6 = 0 := by
        rw [hz.2.1]
        unfold ztk
        rw [if_pos hE]
        have := zkd_rng (T (zskp T tl p))
        exact fun z => by rw [nI_eq0 (by omega)] at z; omega
      rw [f_X5_parse_L31, if_neg (show ¬ (120 : Int32) ≤ nI i from nI_ge (b := 120) (by omega) (by decide)), if_neg h6, if_pos h10, nI_1, f_X8_read_L43, if_pos rfl, h13, h26, h25]
      have stopA : ∀ (a2 : xT) (f : Nat), 1 ≤ f → f ≤ 3 → gI a2 10 = nI f → f_X5_parse_L31 N fu (nI (i + 1)) a2 = some a2 := fun a2 f h1 h2 h3 => by
        obtain ⟨fv, rfl⟩ : ∃ fv, fu = fv + 1 := ⟨fu - 1, by omega⟩
        exact f5_31_stop _ (fun z => by rw [h3, nI_eq0 (by omega)] at z; omega)
      have stopB : ∀ (b2 : xT) (f : Nat), 1 ≤ f → f ≤ 3 → f_X8_read_L43 N v1 (gu + 1) (nI f) b2 = some (nI f, b2) := fun b2 f h1 h2 => f8_43_stop v1 (nI f) (fun z => by rw [nI_eq0 (by omega)] at z; omega)
      cases aw with
      | true =>
        obtain ⟨e, bo, k⟩ := l
        rw [if_neg (show ¬ bI true = 0 by decide), if_neg (show ¬ bI true = 0 by decide), if_neg (show ¬ bI true = 0 by decide)]
        rcases z_rone (N := N) hJ hE hN with ⟨a2, b2, p2, P2, l2, aw2, CS2, RS2, k1, k2, k3, k4, k5, k6⟩ | ⟨a2, b2, f, st, k1, k2, d1, d2, d3, d4, d5, d6, d7, d8, d9⟩
        · rw [k1, z_sbind, k2, z_sbind]
          have hp2 := k4.1.1
          rcases ih (i + 1) p2 P2 l2 aw2 CS2 RS2 a2 b2 fu (gu + 1) k4 (by omega) (by omega) (by omega) (by omega) with ⟨a3, b3, p3, e3, bo3, CS3, RS3, j1, j2, j3, j4, j5⟩ | ⟨a3, b3, f, st, j1, j2, q1, q2, q3, q4, q5, q6, q7, q8⟩
          · exact Or.inl ⟨a3, b3, p3, e3, bo3, CS3, RS3, j1, j2, j3, zfp_tr k5 j4, zfq_tr k6 j5⟩
          · exact Or.inr ⟨a3, b3, f, st, j1, j2, q1, q2, q3, q4, q5, zfp_tr k5 q6, zfq_tr k6 q7, q8⟩
        · right
          rw [k1, z_sbind, k2, z_sbind]
          simp only []
          rw [stopA a2 f d1 d2 d3, stopB b2 f d1 d2]
          exact ⟨a2, b2, f, st, rfl, rfl, d1, d2, d5, d6, d7, d8, d9, Or.inl ⟨d3, d4⟩⟩
      | false =>
        obtain ⟨e, bo, k⟩ := l
        have hk : k = 0 := hk0 rfl
        subst hk
        have fin : ∀ (b' : xT) (p' : Nat), zJ T tl a b' p' P (e, bo, 0) false CS RS → zskp T tl p' < tl → p ≤ p' → zfq b b' → (∃ a2 b2 p2 e2 bo2 CS2 RS2, (f_X5_takeJoint N a).bind (fun q68 => f_X5_parse_L31 N fu (nI (i + 1)) q68) = some a2 ∧ (f_X8_readBehind N b').bind (fun q83 => f_X8_read_L43 N v1 (gu + 1) q83.1 q83.2) = some (0, b2) ∧ zJ T tl a2 b2 p2 [] (e2, bo2, 0) false CS2 RS2 ∧ zfp a a2 ∧ zfq b b2) ∨ ∃ a2 b2 f st, (f_X5_takeJoint N a).bind (fun q68 => f_X5_parse_L31 N fu (nI (i + 1)) q68) = some a2 ∧ (f_X8_readBehind N b').bind (fun q83 => f_X8_read_L43 N v1 (gu + 1) q83.1 q83.2) = some (nI f, b2) ∧ zout a b a2 b2 f st := by
          intro b' p' hJ' hE' hpp hfq
          rcases z_beh (N := N) hJ' hE' hN with ⟨a2, b2, p2, P2, l2, aw2, CS2, RS2, k1, k2, k3, k4, k5, k6⟩ | ⟨a2, b2, f, st, k1, k2, d1, d2, d3, d4, d5, d6, d7, d8, d9⟩
          · rw [k1, z_sbind, k2, z_sbind]
            have hp2 := k4.1.1
            rcases ih (i + 1) p2 P2 l2 aw2 CS2 RS2 a2 b2 fu (gu + 1) k4 (by omega) (by omega) (by omega) (by omega) with ⟨a3, b3, p3, e3, bo3, CS3, RS3, j1, j2, j3, j4, j5⟩ | ⟨a3, b3, f, st, j1, j2, q1, q2, q3, q4, q5, q6, q7, q8⟩
            · exact Or.inl ⟨a3, b3, p3, e3, bo3, CS3, RS3, j1, j2, j3, zfp_tr k5 j4, zfq_tr hfq (zfq_tr k6 j5)⟩
            · exact Or.inr ⟨a3, b3, f, st, j1, j2, q1, q2, q3, q4, q5, zfp_tr k5 q6, zfq_tr hfq (zfq_tr k6 q7), q8⟩
          · right
            rw [k1, z_sbind, k2, z_sbind]
            simp only []
            rw [stopA a2 f d1 d2 d3, stopB b2 f d1 d2]
            exact ⟨a2, b2, f, st, rfl, rfl, d1, d2, d5, d6, d7, d8, zfq_tr hfq d9, Or.inl ⟨d3, d4⟩⟩
        rw [if_pos (show bI false = 0 from rfl), if_pos (show bI false = 0 from rfl)]
        by_cases cP : (0 : Int32) < nI P.length
        · rw [if_pos cP, if_pos (show bI false = 0 from rfl)]
          exact fin b p hJ hE (Nat.le_refl _) (zfq_refl b)
        · rw [if_neg cP]
          obtain ⟨b4, m1, m2, m3⟩ := zJ_here (N := N) hJ hN
          rw [if_pos hE] at m1
          obtain ⟨t1, t2⟩ := hA.2.2 _ hE
          have e26 : gI b4 26 = bI false := m2.2.2.1.2.2.2.2
          rw [m1, z_sbind]
          simp only []
          rw [if_neg (nI_pos (by omega)), e26, if_pos (show bI false = 0 from rfl)]
          exact fin b4 (zskp T tl p) m2 (by rw [zskp_skp hp]; exact hE) hskp.1 m3
    · exact z_pend v1 hN hJ hE
