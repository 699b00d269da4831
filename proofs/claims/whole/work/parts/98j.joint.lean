/-! behind a test, on both sides -/
theorem zw_and {b : xT} {RS : List (Nat × Nat)} {e bo : Bool} {N : Nat} {P : List zLv} (hr : zrs b RS) (hw : zwb b (zlv (e, bo, 0) ++ zvp P)) (hl : RS.length + (zlv (e, bo, 0) ++ zvp P).length ≤ 130) (hN : 200 ≤ N) : ∃ b2, f_X8_work N 1 b = some b2 ∧ zwb b2 ((if e then [0] else []) ++ zvp P) ∧ zrs b2 (RS ++ zeA bo) ∧ (∀ j, j ≠ 20 → j ≠ 23 → gI b2 j = gI b j) ∧ ∀ c j, c ≠ 53 → c ≠ 54 → gA b2 c j = gA b c j := by
  have e1 : zlv (e, bo, 0) ++ zvp P = (if bo then [1] else []) ++ ((if e then [0] else []) ++ zvp P) := by
    unfold zlv; simp [List.append_assoc]
  rw [e1] at hw hl
  have hR : ((if e then [0] else []) ++ zvp P = []) ∨ ∃ r R', ((if e then [0] else []) ++ zvp P) = r :: R' ∧ r ≤ 3 ∧ (r = 3 ∨ r < 1) := by
    cases e with
    | true => exact Or.inr ⟨0, _, rfl, by decide, Or.inr (by decide)⟩
    | false =>
      rcases zvp_hd P with h | ⟨R', h⟩
      · exact Or.inl (by simpa using h)
      · exact Or.inr ⟨3, R', by simpa using h, by decide, Or.inl rfl⟩
  have hX : ∀ x ∈ (if bo then [1] else [] : List Nat), x < 3 ∧ 1 ≤ x := fun x hx => by
    cases bo with
    | true => rw [List.mem_singleton.mp hx]; decide
    | false => exact absurd hx List.not_mem_nil
  have hm : ((if bo then [1] else [] : List Nat)).map (fun x => (x, 0)) = zeA bo := by cases bo <;> rfl
  rw [List.length_append] at hl
  obtain ⟨b2, w1, w2, w3, w4, w5⟩ := f8_work_loop (ls := 1) (by decide) hR (if bo then [1] else []) b RS N hw hr hX (by rw [List.length_append]; omega) (by omega) (by omega)
  rw [hm] at w3
  unfold f_X8_work
  rw [show (1 : Int32) = nI 1 from rfl, w1]
  exact ⟨b2, rfl, w2, w3, w4, w5⟩
theorem zw_all {b : xT} {RS : List (Nat × Nat)} {e bo : Bool} {N : Nat} {P : List zLv} (hr : zrs b RS) (hw : zwb b (zlv (e, bo, 0) ++ zvp P)) (hl : RS.length + (zlv (e, bo, 0) ++ zvp P).length ≤ 130) (hN : 200 ≤ N) : ∃ b2, f_X8_work N 0 b = some b2 ∧ zwb b2 (zvp P) ∧ zrs b2 (RS ++ (zeA bo ++ zeO e)) ∧ (∀ j, j ≠ 20 → j ≠ 23 → gI b2 j = gI b j) ∧ ∀ c j, c ≠ 53 → c ≠ 54 → gA b2 c j = gA b c j := by
  have e1 : zlv (e, bo, 0) = (if bo then [1] else []) ++ (if e then [0] else []) := by unfold zlv; simp
  have hR : (zvp P = []) ∨ ∃ r R', zvp P = r :: R' ∧ r ≤ 3 ∧ (r = 3 ∨ r < 0) := by
    rcases zvp_hd P with h | ⟨R', h⟩
    · exact Or.inl h
    · exact Or.inr ⟨3, R', h, by decide, Or.inl rfl⟩
  have hX : ∀ x ∈ zlv (e, bo, 0), x < 3 ∧ 0 ≤ x := fun x hx => by
    rw [e1] at hx
    cases bo <;> cases e <;> simp at hx <;> omega
  have hm : (zlv (e, bo, 0)).map (fun x => (x, 0)) = zeA bo ++ zeO e := by rw [e1]; cases bo <;> cases e <;> rfl
  rw [List.length_append] at hl
  obtain ⟨b2, w1, w2, w3, w4, w5⟩ := f8_work_loop (ls := 0) (by decide) hR (zlv (e, bo, 0)) b RS N hw hr hX (by rw [List.length_append]; omega) (by omega) (by omega)
  rw [hm] at w3
  unfold f_X8_work
  rw [show (0 : Int32) = nI 0 from rfl, w1]
  exact ⟨b2, rfl, w2, w3, w4, w5⟩
theorem z_beh {a b : xT} {T : Nat → Nat} {tl p N : Nat} {CS RS : List (Nat × Nat)} {P : List zLv} {e bo : Bool} (h : zJ T tl a b p P (e, bo, 0) false CS RS) (hlt : zskp T tl p < tl) (hN : 200 ≤ N) :
    (∃ a2 b2 p2 P2 l2 aw2 CS2 RS2, f_X5_takeJoint N a = some a2 ∧ f_X8_readBehind N b = some (0, b2) ∧ p < p2 ∧ zJ T tl a2 b2 p2 P2 l2 aw2 CS2 RS2 ∧ zfp a a2 ∧ zfq b b2) ∨ (∃ a2 b2 f st, f_X5_takeJoint N a = some a2 ∧ f_X8_readBehind N b = some (nI f, b2) ∧ zbad3 a2 b2 a b f st) := by
  obtain ⟨⟨hp, hA, hB, hz, h16⟩, ⟨h10, h11, h15⟩, ⟨h12, h25, hP4, h13, h26⟩, ⟨hf1, hfg, -⟩, ⟨hcs, hrs, hwb⟩, ⟨hc1, hc2⟩, hsem, hv1, hv2⟩ := h
  have h120 := hA.2.1
  have hskp := zskp_rng (T := T) hp
  have hnr := znxt_rng (T := T) hp
  have hnl := hnr.2.2 hlt
  obtain ⟨b1, w1, w2, w3, w4, w5, w6, w7⟩ := f8_word (N := N) hB h16 hp hN
  have hB1 : ztB b1 T tl := ⟨(w5 14 (by decide) (by decide)).trans hB.1, h120, fun j hj => by rw [w6]; exact hB.2.2 j hj⟩
  have hrs1 : zrs b1 RS := ⟨(w5 20 (by decide) (by decide)).trans hrs.1, fun i hi => by rw [w6, w6]; exact hrs.2 i hi⟩
  have hwb1 : zwb b1 (zlv (e, bo, 0) ++ zvp P) := ⟨(w5 23 (by decide) (by decide)).trans hwb.1, zwv_keep hwb.2 (fun j _ => w6 55 j)⟩
  have hx5 := z_xin (k := P.length) (n := 5) (by omega) (by decide)
  have hf1' : zf1 a P.length false false e := ⟨hf1.1, by simpa using hf1.2.1, hf1.2.2⟩
  have hc1' : CS.length + e.toNat + zpP P ≤ p := by
    have : zpn (e, bo, 0) false = e.toNat := by unfold zpn; simp [zod]
    rw [this] at hc1; exact hc1
  have b0 : bI false = (0 : Int32) := rfl
  have b1' : ¬ bI true = (0 : Int32) := by decide
  have hbe : e.toNat ≤ 1 := Bool.toNat_le _
  have hbb : bo.toNat ≤ 1 := Bool.toNat_le _
  unfold f_X5_takeJoint f_X8_readBehind
  rw [f6_isWord hA hz hp (by decide : (7 : Nat) < 10) hN, z_sbind, w1, z_sbind, zcd_and, z_sbind]
  have sam7 := z_same (k := 7) hp (by decide) w4
  have sam8 := z_same (k := 8) hp (by decide) w4
  by_cases c7 : zwt T tl p = zwd 7
  · left
    have htk := zwt_tk (by decide) c7
    rw [if_pos htk] at w3
    rw [decide_eq_true c7, if_neg b1', if_pos (sam7.mpr c7), w3]
    obtain ⟨a1, x1, x2, x3⟩ := f6_adv (N := N) hA hz.2.2 hnr.2.1 hN
    have e12 : gI a1 12 = nI P.length := (x3.1 12 (by decide) (by decide) (by decide)).trans h12
    obtain ⟨b2, u1, u2, u3, u4, u5⟩ := zw_and (b := sI b1 16 (nI (znxt T tl p))) (N := N) (RS := RS) (e := e) (bo := bo) (P := P) hrs1 ⟨hwb1.1, zwv_keep hwb1.2 (fun _ _ => rfl)⟩ (by omega) hN
    rw [List.length_append, zlv_len] at hc2
    obtain ⟨b3, t1, t2, t3, t4⟩ := f8_hold (w := 1) u2 (by rw [List.length_append]; cases e <;> simp <;> omega)
    rw [show nI 1 = (1 : Int32) from rfl] at t1
    rw [x1, z_sbind, e12, if_pos hx5, nI_clamp (by omega), vn_1, u1, z_sbind, t1, z_sbind]
    have fp2 : zfp a (sI (sA a1 13 (upd (gA a1 13) P.length 1)) 13 1) := zfp_tr (zfp_x x3) ⟨fun j hj => by rw [gI_sI, if_neg (by omega)]; rfl, fun c j hc => by rw [gA_sI, gA_sA, if_neg (by omega)], fun _ _ => rfl⟩
    refine ⟨_, _, znxt T tl p, P, (e, true, 0), true, CS, RS ++ zeA bo, rfl, rfl, by omega, ⟨⟨hnr.2.1, zfp_A hA fp2, ?_, x2, ?_⟩, ⟨?_, ?_, ?_⟩, ⟨?_, ?_, hP4, rfl, rfl⟩, ⟨⟨?_, ?_, ?_⟩, zfg_keep hfg (fun c j hc hj => ?_), fun z => by cases z⟩, ⟨?_, ?_, ?_⟩, ⟨?_, ?_⟩, zsem_and hsem, hv1, zvd_app hv2 (zvd_A _)⟩, fp2, ⟨fun j hj => ?_, fun c j hc => ?_⟩⟩
    · exact ⟨by show gI b3 14 = _; rw [t3 14 (by decide), u4 14 (by decide) (by decide)]; exact hB1.1, h120, fun j hj => by show gA b3 52 j = _ ∧ _; rw [t4 52 j (by decide), u5 52 j (by decide) (by decide)]; exact hB1.2.2 j hj⟩
    · show gI b3 16 = _
      rw [t3 16 (by decide), u4 16 (by decide) (by decide)]; rfl
    · show gI a1 10 = 0
      rw [x3.1 10 (by decide) (by decide) (by decide)]; exact h10
    · show gI a1 11 = -1
      rw [x3.1 11 (by decide) (by decide) (by decide)]; exact h11
    · show gI b3 15 = -1
      rw [t3 15 (by decide), u4 15 (by decide) (by decide), gI_sI, if_neg (by decide), w5 15 (by decide) (by decide)]; exact h15
    · exact e12
    · show gI b3 25 = _
      rw [t3 25 (by decide), u4 25 (by decide) (by decide), gI_sI, if_neg (by decide), w5 25 (by decide) (by decide)]; exact h25
    · rw [gA_sI, gA_sA, if_neg (by decide), x3.2.1]; exact hf1'.1
    · rw [gA_sI, gA_sA, if_pos rfl, upd_at, if_pos rfl]; rfl
    · rw [gA_sI, gA_sA, if_neg (by decide), x3.2.1]; exact hf1'.2.2
    · rw [gA_sI, gA_sA]
      by_cases q : c = 13
      · rw [if_pos q, upd_at, if_neg (by omega), q, x3.2.1]
      · rw [if_neg q, x3.2.1]
    · have hq : zcs a1 CS := zcs_x hcs x3
      exact hq
    · exact ⟨(t3 20 (by decide)).trans u3.1, fun i hi => by show gA b3 53 i = _ ∧ (_ ∨ gA b3 54 i = _); rw [t4 53 i (by decide), t4 54 i (by decide)]; exact u3.2 i hi⟩
    · have : zlv (e, true, 0) ++ zvp P = 1 :: ((if e then [0] else []) ++ zvp P) := by unfold zlv; simp
      rw [this]
      exact ⟨t2.1, zwv_keep t2.2 (fun _ _ => rfl)⟩
    · have : zpn (e, true, 0) true = 1 + e.toNat := by unfold zpn; simp [zod]
      rw [this]
      omega
    · rw [List.length_append, zeA_len, List.length_append, zlv_len]
      show _ + (0 + (1 + e.toNat) + _) ≤ _
      omega
    · rw [gI_sI, if_neg (by omega)]
      by_cases q : j = 26
      · omega
      · rw [t3 j (by omega), u4 j (by omega) (by omega), gI_sI, if_neg (by omega), w5 j (by omega) (by omega)]
    · show gA b3 c j = _
      rw [t4 c j (by omega), u5 c j (by omega) (by omega), gA_sI, w6]
  · rw [decide_eq_false c7, if_pos b0, if_neg (fun z => c7 (sam7.mp z)), f6_isWord hA hz hp (by decide : (8 : Nat) < 10) hN, z_sbind, zcd_or, z_sbind]
    by_cases c8 : zwt T tl p = zwd 8
    · left
      have htk := zwt_tk (by decide) c8
      rw [if_pos htk] at w3
      rw [decide_eq_true c8, if_neg b1', if_pos (sam8.mpr c8), w3]
      obtain ⟨a1, x1, x2, x3⟩ := f6_adv (N := N) hA hz.2.2 hnr.2.1 hN
      have e12 : gI a1 12 = nI P.length := (x3.1 12 (by decide) (by decide) (by decide)).trans h12
      have hf1a : zf1 a1 P.length false false e := ⟨by rw [x3.2.1]; exact hf1'.1, by rw [x3.2.1]; exact hf1'.2.1, by rw [x3.2.1]; exact hf1'.2.2⟩
      obtain ⟨a2, m1, m2, m3⟩ := f5_end (zcs_x hcs x3) e12 hP4 hf1a (by omega)
      have e12b : gI a2 12 = nI P.length := (m3.1 12 (by decide)).trans e12
      obtain ⟨b2, u1, u2, u3, u4, u5⟩ := zw_all (b := sI b1 16 (nI (znxt T tl p))) (N := N) (RS := RS) (e := e) (bo := bo) (P := P) hrs1 ⟨hwb1.1, zwv_keep hwb1.2 (fun _ _ => rfl)⟩ (by omega) hN
      rw [List.length_append, zlv_len] at hc2
      obtain ⟨b3, t1, t2, t3, t4⟩ := f8_hold (w := 0) u2 (by omega)
      rw [show nI 0 = (0 : Int32) from rfl] at t1
      rw [x1, z_sbind, m1, z_sbind, e12b, if_pos hx5, nI_clamp (by omega), vn_1, u1, z_sbind, t1, z_sbind]
      have fp2 : zfp a (sI (sA a2 14 (upd (gA a2 14) P.length 1)) 13 1) := zfp_tr (zfp_x x3) (zfp_tr (zfu_p m3) ⟨fun j hj => by rw [gI_sI, if_neg (by omega)]; rfl, fun c j hc => by rw [gA_sI, gA_sA, if_neg (by omega)], fun _ _ => rfl⟩)
      have hf1b := zf1_u hf1a m3
      refine ⟨_, _, znxt T tl p, P, (true, false, 0), true, CS ++ zeO e, RS ++ (zeA bo ++ zeO e), rfl, rfl, by omega, ⟨⟨hnr.2.1, zfp_A hA fp2, ?_, zatk_f x2 (m3.1 6 (by decide)) (m3.1 7 (by decide)) (m3.1 8 (by decide)), ?_⟩, ⟨?_, ?_, ?_⟩, ⟨?_, ?_, hP4, rfl, rfl⟩, ⟨⟨?_, ?_, ?_⟩, zfg_keep hfg (fun c j hc hj => ?_), fun z => by cases z⟩, ⟨m2, ?_, ?_⟩, ⟨?_, ?_⟩, zsem_or hsem, zvd_app hv1 (zvd_O _), zvd_app hv2 (zvd_app (zvd_A _) (zvd_O _))⟩, fp2, ⟨fun j hj => ?_, fun c j hc => ?_⟩⟩
      · exact ⟨by show gI b3 14 = _; rw [t3 14 (by decide), u4 14 (by decide) (by decide)]; exact hB1.1, h120, fun j hj => by show gA b3 52 j = _ ∧ _; rw [t4 52 j (by decide), u5 52 j (by decide) (by decide)]; exact hB1.2.2 j hj⟩
      · show gI b3 16 = _
        rw [t3 16 (by decide), u4 16 (by decide) (by decide)]; rfl
      · show gI a2 10 = 0
        rw [m3.1 10 (by decide), x3.1 10 (by decide) (by decide) (by decide)]; exact h10
      · show gI a2 11 = -1
        rw [m3.1 11 (by decide), x3.1 11 (by decide) (by decide) (by decide)]; exact h11
      · show gI b3 15 = -1
        rw [t3 15 (by decide), u4 15 (by decide) (by decide), gI_sI, if_neg (by decide), w5 15 (by decide) (by decide)]; exact h15
      · exact e12b
      · show gI b3 25 = _
        rw [t3 25 (by decide), u4 25 (by decide) (by decide), gI_sI, if_neg (by decide), w5 25 (by decide) (by decide)]; exact h25
      · rw [gA_sI, gA_sA, if_neg (by decide)]; exact hf1b.1
      · rw [gA_sI, gA_sA, if_neg (by decide)]; exact hf1b.2.1
      · rw [gA_sI, gA_sA, if_pos rfl, upd_at, if_pos rfl]; rfl
      · rw [gA_sI, gA_sA]
        by_cases q : c = 14
        · rw [if_pos q, upd_at, if_neg (by omega), q, m3.2.1 14 j (by decide) (by decide) (by decide), x3.2.1]
        · rw [if_neg q, m3.2.1 c j (by omega) (by omega) (by omega), x3.2.1]
      · exact ⟨(t3 20 (by decide)).trans u3.1, fun i hi => by show gA b3 53 i = _ ∧ (_ ∨ gA b3 54 i = _); rw [t4 53 i (by decide), t4 54 i (by decide)]; exact u3.2 i hi⟩
      · have : zlv (true, false, 0) ++ zvp P = 0 :: zvp P := by unfold zlv; simp
        rw [this]
        exact ⟨t2.1, zwv_keep t2.2 (fun _ _ => rfl)⟩
      · have : zpn (true, false, 0) true = 1 := by decide
        rw [this, List.length_append, zeO_len]
        omega
      · rw [List.length_append, List.length_append, zeA_len, zeO_len, List.length_append, zlv_len]
        show _ + (0 + (0 + 1) + _) ≤ _
        omega
      · rw [gI_sI, if_neg (by omega)]
        rw [t3 j (by omega), u4 j (by omega) (by omega), gI_sI, if_neg (by omega), w5 j (by omega) (by omega)]
      · show gA b3 c j = _
        rw [t4 c j (by omega), u5 c j (by omega) (by omega), gA_sI, w6]
    · rw [decide_eq_false c8, if_pos b0, if_neg (fun z => c8 (sam8.mp z))]
      obtain ⟨b2, r1, r2, r3, r4, r5⟩ := f8_here (N := N) hB1 w2 (by omega) hN
      rw [zskp_skp hp] at r1 r2
      obtain ⟨t1, t2⟩ := hA.2.2 _ hlt
      rw [if_pos hlt] at r1
      have hsg := f6_isSign (c := 41) hA hz hp (Or.inr rfl)
      rw [show nI 41 = (41 : Int32) from rfl] at hsg
      have hB2 : ztB b2 T tl := ⟨(r3 14 (by decide)).trans hB1.1, h120, fun j hj => by rw [r4]; exact hB1.2.2 j hj⟩
      have hrs2 : zrs b2 RS := ⟨(r3 20 (by decide)).trans hrs1.1, fun i hi => by rw [r4, r4]; exact hrs1.2 i hi⟩
      have hwb2 : zwb b2 (zlv (e, bo, 0) ++ zvp P) := ⟨(r3 23 (by decide)).trans hwb1.1, zwv_keep hwb1.2 (fun j _ => r4 55 j)⟩
      have fq2 : zfq b b2 := ⟨fun j hj => by rw [r3 j (by omega), w5 j (by omega) (by omega)], fun c j _ => by rw [r4, w6]⟩
      have e25 : gI b2 25 = nI P.length := by rw [r3 25 (by decide), w5 25 (by decide) (by decide)]; exact h25
      have bad : ∃ a2 b3 f st, (f_X5_blame 1 a).bind (fun q110 => some q110) = some a2 ∧ (f_X8_fails 1 (gI b2 16) b2).bind (fun q156 => some (q156.1, q156.2)) = some (nI f, b3) ∧ zbad3 a2 b3 a b f st := by
        rw [f5_blame0 _ h10]
        unfold f_X8_fails
        refine ⟨_, _, 1, zskp T tl p, rfl, rfl, by decide, by decide, rfl, ?_, ?_, zln_of hcs, ⟨P.length, hP4, h12⟩, ⟨fun j hj => ?_, fun _ _ _ => rfl, fun _ _ => rfl⟩, ⟨fun j hj => ?_, fq2.2⟩⟩
        · rw [gI_sI, if_pos rfl]; exact hz.1
        · rw [gI_sI, if_pos rfl]; exact r2
        · rw [gI_sI, if_neg (by omega), gI_sI, if_neg (by omega)]
        · rw [gI_sI, if_neg (by omega)]; exact fq2.1 j hj
      rw [r1, z_sbind, h12]
      simp only []
      by_cases c1 : T (zskp T tl p) = 41
      · rw [if_pos (show nI (T (zskp T tl p)) = 41 by rw [c1]; rfl), e25, hsg, z_sbind, decide_eq_true ⟨hlt, c1⟩, if_neg b1']
        have hnx : znxt T tl p = zskp T tl p + 1 := by
          unfold znxt
          rw [if_pos hlt, c1, if_pos (by decide)]
        cases P with
        | nil =>
          right
          rw [if_pos (show nI ([] : List zLv).length ≤ (0 : Int32) by decide), if_pos (show nI ([] : List zLv).length ≤ (0 : Int32) by decide)]
          exact bad
        | cons l P =>
          left
          obtain ⟨e1, bo1, k1⟩ := l
          rw [List.length_cons] at h12 e25 hP4 hf1' hx5
          have hne : ¬ nI (((e1, bo1, k1) :: P).length) ≤ (0 : Int32) := nI_ge (a := 0) (by rw [List.length_cons]; omega) (by rw [List.length_cons]; omega)
          have hm1 : nI (P.length + 1) - 1 = nI P.length := pk_sub (b := 1) (by omega)
          rw [if_neg hne, if_neg hne, r2, nI_1, List.length_cons, hm1]
          obtain ⟨a1, x1, x2, x3⟩ := f6_adv (N := N) hA hz.2.2 hnr.2.1 hN
          have e12 : gI a1 12 = nI (P.length + 1) := (x3.1 12 (by decide) (by decide) (by decide)).trans h12
          have hf1a : zf1 a1 (P.length + 1) false false e := ⟨by rw [x3.2.1]; exact hf1'.1, by rw [x3.2.1]; exact hf1'.2.1, by rw [x3.2.1]; exact hf1'.2.2⟩
          have hzp : zpP ((e1, bo1, k1) :: P) = (zod k1).toNat + bo1.toNat + e1.toNat + zpP P := by
            show zpn (e1, bo1, k1) true + zpP P = _
            unfold zpn; simp
          rw [hzp] at hc1'
          obtain ⟨a2, m1, m2, m3⟩ := f5_end (zcs_x hcs x3) e12 (by omega) hf1a (by omega)
          have e12b : gI a2 12 = nI (P.length + 1) := (m3.1 12 (by decide)).trans e12
          have hfl : zf1 (sI a2 12 (nI P.length)) P.length (zod k1) bo1 e1 := by
            have h0 := hfg.1
            have h1 : zf1 a1 P.length (zod k1) bo1 e1 := ⟨by rw [x3.2.1]; exact h0.1, by rw [x3.2.1]; exact h0.2.1, by rw [x3.2.1]; exact h0.2.2⟩
            have h2 : zf1 a2 P.length (zod k1) bo1 e1 := zf1_u h1 m3
            exact h2
          obtain ⟨a3, n1, n2, n3, n4, n5⟩ := f5_endTest (a := sI a2 12 (nI P.length)) (CS := CS ++ zeO e) (i := P.length) m2 (by rw [gI_sI, if_pos rfl]) (by omega) hfl (by rw [List.length_append, zeO_len]; omega)
          obtain ⟨b3, u1, u2, u3, u4, u5⟩ := zw_all (b := sI (sI b2 16 (nI (zskp T tl p + 1))) 25 (nI P.length)) (N := N) (RS := RS) (e := e) (bo := bo) (P := (e1, bo1, k1) :: P) hrs2 ⟨hwb2.1, zwv_keep hwb2.2 (fun _ _ => rfl)⟩ (by omega) hN
          have hw3 : zwb (sI b3 23 (gI b3 23 - 1)) (zlv (e1, bo1, k1) ++ zvp P) := by
            have h0 := u2
            have h1 : zvp ((e1, bo1, k1) :: P) = 3 :: (zlv (e1, bo1, k1) ++ zvp P) := rfl
            rw [h1] at h0
            refine ⟨?_, zwv_keep h0.2.2 (fun _ _ => rfl)⟩
            rw [gI_sI, if_pos rfl, h0.1, List.length_cons]
            exact pk_sub (b := 1) (by omega)
          rw [List.length_append, zlv_len] at hc2
          have hzv : (zvp ((e1, bo1, k1) :: P)).length = 1 + (zlv (e1, bo1, k1) ++ zvp P).length := by
            show (3 :: (zlv (e1, bo1, k1) ++ zvp P)).length = _
            rw [List.length_cons]; omega
          rw [hzv] at hc2
          obtain ⟨b4, v1, v2, v3, v4, v5⟩ := f8_nots (b := sI b3 23 (gI b3 23 - 1)) (N := N) (RS := RS ++ (zeA bo ++ zeO e)) (e := e1) (bo := bo1) (k := k1) (P := P) u3 hw3 (by rw [List.length_append, List.length_append, zeA_len, zeO_len]; omega) hN
          rw [x1, z_sbind, m1, z_sbind, e12b, hm1, n1, z_sbind, u1, z_sbind, v1, z_sbind]
          have fp3 : zfp a a3 := zfp_tr (zfp_x x3) (zfp_tr (zfu_p m3) (zfp_tr (b := sI a2 12 (nI P.length)) ⟨fun j hj => by rw [gI_sI, if_neg (by omega)], fun _ _ _ => rfl, fun _ _ => rfl⟩ ⟨fun j hj => n5.1 j (by omega) (by omega), fun c j hc => n5.2.1 c j (by omega), n5.2.2.2⟩))
          rw [List.length_append, zlv_len] at hc2
          refine ⟨a3, b4, znxt T tl p, P, (e1, bo1, 0), false, (CS ++ zeO e) ++ (zeI (zod k1) ++ zeA bo1), (RS ++ (zeA bo ++ zeO e)) ++ zeN k1, rfl, rfl, by omega, ⟨⟨hnr.2.1, zfp_A hA fp3, ?_, ?_, ?_⟩, ⟨?_, ?_, ?_⟩, ⟨?_, ?_, by omega, n4, ?_⟩, ⟨⟨n3.1, by rw [Bool.and_false]; exact n3.2.1, n3.2.2⟩, zfg_keep hfg.2 (fun c j hc hj => ?_), fun _ => rfl⟩, ⟨n2, v3, v2⟩, ⟨?_, ?_⟩, zsem_close hsem, zvd_app (zvd_app hv1 (zvd_O _)) (zvd_app (zvd_I _) (zvd_A _)), zvd_app (zvd_app hv2 (zvd_app (zvd_A _) (zvd_O _))) (zvd_N _)⟩, fp3, ⟨fun j hj => ?_, fun c j hc => ?_⟩⟩
          · exact ⟨by rw [v4 14 (by decide) (by decide), gI_sI, if_neg (by decide), u4 14 (by decide) (by decide)]; exact hB2.1, h120, fun j hj => by rw [v5 52 j (by decide) (by decide), gA_sI, u5 52 j (by decide) (by decide)]; exact hB2.2.2 j hj⟩
          · exact zatk_f x2 (by rw [n5.1 6 (by decide) (by decide), gI_sI, if_neg (by decide), m3.1 6 (by decide)]) (by rw [n5.1 7 (by decide) (by decide), gI_sI, if_neg (by decide), m3.1 7 (by decide)]) (by rw [n5.1 8 (by decide) (by decide), gI_sI, if_neg (by decide), m3.1 8 (by decide)])
          · rw [v4 16 (by decide) (by decide), gI_sI, if_neg (by decide), u4 16 (by decide) (by decide), gI_sI, if_neg (by decide), gI_sI, if_pos rfl, hnx]
          · rw [n5.1 10 (by decide) (by decide), gI_sI, if_neg (by decide), m3.1 10 (by decide), x3.1 10 (by decide) (by decide) (by decide)]; exact h10
          · rw [n5.1 11 (by decide) (by decide), gI_sI, if_neg (by decide), m3.1 11 (by decide), x3.1 11 (by decide) (by decide) (by decide)]; exact h11
          · rw [v4 15 (by decide) (by decide), gI_sI, if_neg (by decide), u4 15 (by decide) (by decide), gI_sI, if_neg (by decide), gI_sI, if_neg (by decide), r3 15 (by decide), w5 15 (by decide) (by decide)]; exact h15
          · rw [n5.1 12 (by decide) (by decide), gI_sI, if_pos rfl]
          · rw [v4 25 (by decide) (by decide), gI_sI, if_neg (by decide), u4 25 (by decide) (by decide), gI_sI, if_pos rfl]
          · rw [v4 26 (by decide) (by decide), gI_sI, if_neg (by decide), u4 26 (by decide) (by decide), gI_sI, if_neg (by decide), gI_sI, if_neg (by decide), r3 26 (by decide), w5 26 (by decide) (by decide)]; exact h26
          · rcases hc with hc | hc | hc
            · rw [n5.2.2.1 c j (Or.inl hc) (by omega), gA_sI, m3.2.1 c j (by omega) (by omega) (by omega), x3.2.1]
            · rw [n5.2.2.1 c j (Or.inr hc) (by omega), gA_sI, m3.2.1 c j (by omega) (by omega) (by omega), x3.2.1]
            · rw [n5.2.1 c j (by omega), gA_sI, m3.2.1 c j (by omega) (by omega) (by omega), x3.2.1]
          · have : zpn (e1, bo1, 0) false = e1.toNat := by unfold zpn; simp [zod]
            rw [this, List.length_append, List.length_append, List.length_append, zeO_len, zeI_len, zeA_len]
            omega
          · rw [List.length_append, List.length_append, List.length_append, zeA_len, zeO_len, zeN_len, List.length_append, zlv_len]
            omega
          · rw [v4 j (by omega) (by omega), gI_sI, if_neg (by omega), u4 j (by omega) (by omega), gI_sI, if_neg (by omega), gI_sI, if_neg (by omega)]; exact fq2.1 j hj
          · rw [v5 c j (by omega) (by omega), gA_sI, u5 c j (by omega) (by omega)]; exact fq2.2 c j hc
      · right
        rw [if_neg (show ¬ nI (T (zskp T tl p)) = 41 from fun z => c1 ((nI_eq (b := 41) (by omega) (by decide)).mp z)), hsg, z_sbind, decide_eq_false (fun z => c1 z.2), if_pos b0]
        by_cases c2 : nI P.length ≤ (0 : Int32)
        · rw [if_pos c2]; exact bad
        · rw [if_neg c2]; exact bad
