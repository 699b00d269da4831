/-! one piece of the text, on both sides -/
def zpn (l : zLv) (aw : Bool) : Nat := (zod l.2.2).toNat + (l.2.1 && aw).toNat + l.1.toNat
def zpP : List zLv → Nat
  | [] => 0
  | l :: P => zpn l true + zpP P
def zJ (T : Nat → Nat) (tl : Nat) (a b : xT) (p : Nat) (P : List zLv) (l : zLv) (aw : Bool) (CS RS : List (Nat × Nat)) : Prop :=
  (p ≤ tl ∧ ztA a T tl ∧ ztB b T tl ∧ zatk a T tl p ∧ gI b 16 = nI p) ∧ (gI a 10 = 0 ∧ gI a 11 = -1 ∧ gI b 15 = -1) ∧ (gI a 12 = nI P.length ∧ gI b 25 = nI P.length ∧ P.length ≤ 4 ∧ gI a 13 = bI aw ∧ gI b 26 = bI aw) ∧ (zf1 a P.length (zod l.2.2) (l.2.1 && aw) l.1 ∧ zfg a P ∧ (aw = false → l.2.2 = 0)) ∧ (zcs a CS ∧ zrs b RS ∧ zwb b (zlv l ++ zvp P)) ∧ (CS.length + zpn l aw + zpP P ≤ p ∧ RS.length + (zlv l ++ zvp P).length ≤ p) ∧ zsem CS RS P l aw ∧ (∀ i ∈ CS, zvd i) ∧ ∀ i ∈ RS, zvd i
def zbad3 (a2 b2 a b : xT) (f st : Nat) : Prop := 1 ≤ f ∧ f ≤ 3 ∧ gI a2 10 = nI f ∧ gI a2 11 = nI st ∧ gI b2 15 = nI st ∧ zln a2 ∧ (∃ i, i ≤ 4 ∧ gI a2 12 = nI i) ∧ zfp a a2 ∧ zfq b b2
theorem zlv_len (e bo : Bool) (k : Nat) : (zlv (e, bo, k)).length = k + (bo.toNat + e.toNat) := by
  unfold zlv
  rw [List.length_append, List.length_replicate, List.length_append]
  cases e <;> cases bo <;> rfl
theorem zfg_f {a a2 : xT} {P : List zLv} (h : zfg a P) (g : ∀ c j, (c = 12 ∨ c = 13 ∨ c = 14) → gA a2 c j = gA a c j) : zfg a2 P := zfg_keep h (fun c j hc _ => g c j hc)
theorem zvd_op {k : Nat} (h : k < 3) : zvd (k, 0) := Or.inl h
theorem zvd_app {A B : List (Nat × Nat)} (h1 : ∀ i ∈ A, zvd i) (h2 : ∀ i ∈ B, zvd i) : ∀ i ∈ A ++ B, zvd i := fun i hi => (List.mem_append.mp hi).elim (h1 i) (h2 i)
theorem zvd_A (c : Bool) : ∀ i ∈ zeA c, zvd i := fun i hi => by
  unfold zeA at hi
  split at hi
  · rw [List.mem_singleton.mp hi]; exact zvd_op (by decide)
  · exact absurd hi List.not_mem_nil
theorem zvd_O (c : Bool) : ∀ i ∈ zeO c, zvd i := fun i hi => by
  unfold zeO at hi
  split at hi
  · rw [List.mem_singleton.mp hi]; exact zvd_op (by decide)
  · exact absurd hi List.not_mem_nil
theorem zvd_I (c : Bool) : ∀ i ∈ zeI c, zvd i := fun i hi => by
  unfold zeI at hi
  split at hi
  · rw [List.mem_singleton.mp hi]; exact zvd_op (by decide)
  · exact absurd hi List.not_mem_nil
theorem zvd_N (k : Nat) : ∀ i ∈ zeN k, zvd i := fun i hi => by
  rw [List.eq_of_mem_replicate hi]; exact zvd_op (by decide)
theorem zeA_len (c : Bool) : (zeA c).length = c.toNat := by cases c <;> rfl
theorem zeO_len (c : Bool) : (zeO c).length = c.toNat := by cases c <;> rfl
theorem zeI_len (c : Bool) : (zeI c).length = c.toNat := by cases c <;> rfl
theorem zeN_len (k : Nat) : (zeN k).length = k := List.length_replicate
theorem zod_s (k : Nat) : zod (k + 1) = !zod k := by
  unfold zod
  by_cases c : k % 2 = 1
  · rw [decide_eq_true c, decide_eq_false (by omega)]; rfl
  · rw [decide_eq_false c, decide_eq_true (by omega)]; rfl
theorem zpn_le (l : zLv) (aw : Bool) : zpn l aw ≤ 3 := by
  have h1 := Bool.toNat_le (zod l.2.2)
  have h2 := Bool.toNat_le (l.2.1 && aw)
  have h3 := Bool.toNat_le l.1
  unfold zpn
  omega
theorem z_rone {a b : xT} {T : Nat → Nat} {tl p N : Nat} {CS RS : List (Nat × Nat)} {P : List zLv} {e bo : Bool} {k : Nat} (h : zJ T tl a b p P (e, bo, k) true CS RS) (hlt : zskp T tl p < tl) (hN : 200 ≤ N) :
    (∃ a2 b2 p2 P2 l2 aw2 CS2 RS2, f_X5_takeTest N a = some a2 ∧ f_X8_readOne N b = some (0, b2) ∧ p < p2 ∧ zJ T tl a2 b2 p2 P2 l2 aw2 CS2 RS2 ∧ zfp a a2 ∧ zfq b b2) ∨ (∃ a2 b2 f st, f_X5_takeTest N a = some a2 ∧ f_X8_readOne N b = some (nI f, b2) ∧ zbad3 a2 b2 a b f st) := by
  obtain ⟨⟨hp, hA, hB, hz, h16⟩, ⟨h10, h11, h15⟩, ⟨h12, h25, hP4, h13, h26⟩, ⟨hf1, hfg, -⟩, ⟨hcs, hrs, hwb⟩, ⟨hc1, hc2⟩, hsem, hv1, hv2⟩ := h
  have h120 := hA.2.1
  have hskp := zskp_rng (T := T) hp
  have hnr := znxt_rng (T := T) hp
  have hnl := hnr.2.2 hlt
  obtain ⟨b1, w1, w2, w3, w4, w5, w6, w7⟩ := f8_word (N := N) hB h16 hp hN
  have hB1 : ztB b1 T tl := ⟨(w5 14 (by decide) (by decide)).trans hB.1, h120, fun j hj => by rw [w6]; exact hB.2.2 j hj⟩
  have hrs1 : zrs b1 RS := ⟨(w5 20 (by decide) (by decide)).trans hrs.1, fun i hi => by rw [w6, w6]; exact hrs.2 i hi⟩
  have hwb1 : zwb b1 (zlv (e, bo, k) ++ zvp P) := ⟨(w5 23 (by decide) (by decide)).trans hwb.1, zwv_keep hwb.2 (fun j _ => w6 55 j)⟩
  have hx5 := z_xin (k := P.length) (n := 5) (by omega) (by decide)
  unfold f_X5_takeTest f_X8_readOne
  rw [f6_isWord hA hz hp (by decide : (0 : Nat) < 10) hN, z_sbind, w1, z_sbind, zcd_not, z_sbind]
  have sam := z_same (k := 0) hp (by decide) w4
  by_cases c0 : zwt T tl p = zwd 0
  · left
    have htk := zwt_tk (by decide) c0
    rw [if_pos htk] at w3
    rw [decide_eq_true c0, if_neg (show ¬ bI true = 0 by decide), if_pos (sam.mpr c0), w3]
    obtain ⟨a1, x1, x2, x3⟩ := f6_adv (N := N) hA hz.2.2 hnr.2.1 hN
    have e12 : gI a1 12 = nI P.length := (x3.1 12 (by decide) (by decide) (by decide)).trans h12
    have hVl : (zlv (e, bo, k) ++ zvp P).length < 130 := by omega
    obtain ⟨b2, u1, u2, u3, u4⟩ := f8_hold (b := sI b1 16 (nI (znxt T tl p))) (w := 2) (V := zlv (e, bo, k) ++ zvp P) ⟨hwb1.1, zwv_keep hwb1.2 (fun _ _ => rfl)⟩ hVl
    rw [show nI 2 = (2 : Int32) from rfl] at u1
    have hres : ∃ a2, (if xin (gI a1 12) 5 then (if gA a1 12 (Int32.toNatClampNeg (gI a1 12)) = 0 then (if xin (gI a1 12) 5 then some (sA a1 12 (upd (gA a1 12) (Int32.toNatClampNeg (gI a1 12)) (vp_nar .boolean 1))) else none) else (if xin (gI a1 12) 5 then some (sA a1 12 (upd (gA a1 12) (Int32.toNatClampNeg (gI a1 12)) (vp_nar .boolean 0))) else none)) else none) = some a2 ∧ gA a2 12 P.length = bI (zod (k + 1)) ∧ (∀ j, gI a2 j = gI a1 j) ∧ (∀ c j, (c ≠ 12 ∨ j ≠ P.length) → gA a2 c j = gA a1 c j) ∧ ∀ c j, gB a2 c j = gB a1 c j := by
      have e1 : gA a1 12 P.length = bI (zod k) := (x3.2.1 12 _).trans hf1.1
      have fr : ∀ v : Int32, ∀ c j, (c ≠ 12 ∨ j ≠ P.length) → gA (sA a1 12 (upd (gA a1 12) P.length v)) c j = gA a1 c j := fun v c j hc => by
        rw [gA_sA]
        by_cases q : c = 12
        · rw [if_pos q, upd_at, if_neg (hc.resolve_left (fun z => z q)), q]
        · rw [if_neg q]
      simp only [e12, if_pos hx5, nI_clamp (show P.length < 2 ^ 31 by omega), e1, vn_0, vn_1]
      cases q : zod k with
      | false =>
        rw [if_pos (show bI false = 0 from rfl)]
        refine ⟨_, rfl, ?_, fun _ => rfl, fr 1, fun _ _ => rfl⟩
        rw [gA_sA, if_pos rfl, upd_at, if_pos rfl, zod_s, q]; rfl
      | true =>
        rw [if_neg (show ¬ bI true = 0 by decide)]
        refine ⟨_, rfl, ?_, fun _ => rfl, fr 0, fun _ _ => rfl⟩
        rw [gA_sA, if_pos rfl, upd_at, if_pos rfl, zod_s, q]; rfl
    obtain ⟨a2, g1, g2, g3, g4, g5⟩ := hres
    have fp2 : zfp a a2 := zfp_tr (zfp_x x3) ⟨fun j _ => g3 j, fun c j hc => g4 c j (by omega), g5⟩
    refine ⟨a2, b2, znxt T tl p, P, (e, bo, k + 1), true, CS, RS, ?_, ?_, by omega, ⟨⟨hnr.2.1, zfp_A hA fp2, ?_, zatk_f x2 (g3 6) (g3 7) (g3 8), ?_⟩, ⟨?_, ?_, ?_⟩, ⟨?_, ?_, hP4, ?_, ?_⟩, ⟨⟨g2, ?_, ?_⟩, zfg_keep hfg (fun c j _ hj => ?_), fun z => by cases z⟩, ⟨?_, ?_, ?_⟩, ⟨?_, ?_⟩, zsem_not hsem, hv1, hv2⟩, fp2, ⟨fun j hj => ?_, fun c j hc => ?_⟩⟩
    · rw [x1, z_sbind]; exact g1
    · rw [u1]; rfl
    · exact ⟨(u3 14 (by decide)).trans hB1.1, h120, fun j hj => by rw [u4 52 j (by decide)]; exact hB1.2.2 j hj⟩
    · rw [u3 16 (by decide)]; rfl
    · rw [g3, x3.1 10 (by decide) (by decide) (by decide)]; exact h10
    · rw [g3, x3.1 11 (by decide) (by decide) (by decide)]; exact h11
    · rw [u3 15 (by decide), gI_sI, if_neg (by decide), w5 15 (by decide) (by decide)]; exact h15
    · rw [g3]; exact e12
    · rw [u3 25 (by decide), gI_sI, if_neg (by decide), w5 25 (by decide) (by decide)]; exact h25
    · rw [g3, x3.1 13 (by decide) (by decide) (by decide)]; exact h13
    · rw [u3 26 (by decide), gI_sI, if_neg (by decide), w5 26 (by decide) (by decide)]; exact h26
    · rw [g4 13 _ (Or.inl (by decide)), x3.2.1]; exact hf1.2.1
    · rw [g4 14 _ (Or.inl (by decide)), x3.2.1]; exact hf1.2.2
    · rw [g4 c j (Or.inr (by omega)), x3.2.1]
    · exact ⟨by rw [g3, x3.1 9 (by decide) (by decide) (by decide)]; exact hcs.1, hcs.2.1, fun i hi => by rw [g4 9 i (Or.inl (by decide)), g4 10 i (Or.inl (by decide)), g4 11 i (Or.inl (by decide)), x3.2.1, x3.2.1, x3.2.1]; exact hcs.2.2 i hi⟩
    · exact ⟨(u3 20 (by decide)).trans hrs1.1, fun i hi => by rw [u4 53 i (by decide), u4 54 i (by decide)]; exact hrs1.2 i hi⟩
    · exact u2
    · have h1 := Bool.toNat_le (zod (k + 1))
      unfold zpn at hc1 ⊢
      simp only [Bool.and_true] at hc1 ⊢
      omega
    · rw [List.length_append, zlv_len] at hc2 ⊢
      omega
    · rw [u3 j (by omega), gI_sI, if_neg (by omega), w5 j (by omega) (by omega)]
    · rw [u4 c j (by omega), gA_sI, w6]
  · rw [decide_eq_false c0, if_pos (show bI false = 0 from rfl), if_neg (fun z => c0 (sam.mp z))]
    have hsg := f6_isSign (c := 40) hA hz hp (Or.inl rfl)
    rw [show nI 40 = (40 : Int32) from rfl] at hsg
    obtain ⟨b2, r1, r2, r3, r4, r5⟩ := f8_here (N := N) hB1 w2 (by omega) hN
    rw [zskp_skp hp] at r1 r2
    obtain ⟨t1, t2⟩ := hA.2.2 _ hlt
    rw [if_pos hlt] at r1
    rw [hsg, z_sbind, r1, z_sbind]
    have hB2 : ztB b2 T tl := ⟨(r3 14 (by decide)).trans hB1.1, h120, fun j hj => by rw [r4]; exact hB1.2.2 j hj⟩
    have hrs2 : zrs b2 RS := ⟨(r3 20 (by decide)).trans hrs1.1, fun i hi => by rw [r4, r4]; exact hrs1.2 i hi⟩
    have hwb2 : zwb b2 (zlv (e, bo, k) ++ zvp P) := ⟨(r3 23 (by decide)).trans hwb1.1, zwv_keep hwb1.2 (fun j _ => r4 55 j)⟩
    have fq2 : zfq b b2 := ⟨fun j hj => by rw [r3 j (by omega), w5 j (by omega) (by omega)], fun c j _ => by rw [r4, w6]⟩
    have e25 : gI b2 25 = nI P.length := by rw [r3 25 (by decide), w5 25 (by decide) (by decide)]; exact h25
    by_cases c1 : T (zskp T tl p) = 40
    · rw [decide_eq_true ⟨hlt, c1⟩, if_neg (show ¬ bI true = 0 by decide)]
      simp only []
      rw [if_pos (show nI (T (zskp T tl p)) = 40 by rw [c1]; rfl), e25]
      unfold f_X5_takeOpening
      rw [h12]
      have hnx : znxt T tl p = zskp T tl p + 1 := by
        unfold znxt
        rw [if_pos hlt, c1, if_pos (by decide)]
      by_cases c2 : P.length = 4
      · right
        rw [if_neg (show ¬ nI P.length < (4 : Int32) from nI_nlt (b := 4) (by omega) (by omega)), f5_blame0 _ h10, z_sbind, z_sbind, if_pos (show nI P.length = 4 by rw [c2]; rfl)]
        unfold f_X8_fails
        refine ⟨_, _, 3, zskp T tl p, rfl, rfl, by decide, by decide, rfl, ?_, ?_, zln_of hcs, ⟨P.length, hP4, h12⟩, ⟨fun j hj => ?_, fun _ _ _ => rfl, fun _ _ => rfl⟩, ⟨fun j hj => ?_, fq2.2⟩⟩
        · rw [gI_sI, if_pos rfl]; exact hz.1
        · rw [gI_sI, if_pos rfl]; exact r2
        · rw [gI_sI, if_neg (by omega), gI_sI, if_neg (by omega)]
        · rw [gI_sI, if_neg (by omega)]; exact fq2.1 j hj
      · left
        rw [if_pos (show nI P.length < (4 : Int32) from nI_lt (b := 4) (by omega) (by decide)), if_neg (show ¬ nI P.length = 4 from fun z => c2 ((nI_eq (b := 4) (by omega) (by decide)).mp z)), r2, nI_1, nI_1]
        obtain ⟨a1, x1, x2, x3⟩ := f6_adv (N := N) hA hz.2.2 hnr.2.1 hN
        have e12 : gI a1 12 = nI P.length := (x3.1 12 (by decide) (by decide) (by decide)).trans h12
        have hVl : (zlv (e, bo, k) ++ zvp P).length < 130 := by omega
        obtain ⟨b3, u1, u2, u3, u4⟩ := f8_hold (b := sI (sI b2 25 (nI (P.length + 1))) 16 (nI (zskp T tl p + 1))) (w := 3) (V := zlv (e, bo, k) ++ zvp P) ⟨hwb2.1, zwv_keep hwb2.2 (fun _ _ => rfl)⟩ hVl
        rw [show nI 3 = (3 : Int32) from rfl] at u1
        have hx51 := z_xin (k := P.length + 1) (n := 5) (by omega) (by decide)
        have hbg : ∃ a2, f_X5_begin (nI (P.length + 1)) a1 = some a2 ∧ zf1 a2 (P.length + 1) false false false ∧ gI a2 12 = nI (P.length + 1) ∧ (∀ j, j ≠ 12 → gI a2 j = gI a1 j) ∧ (∀ c j, (c < 12 ∨ 14 < c ∨ j ≠ P.length + 1) → gA a2 c j = gA a1 c j) ∧ ∀ c j, gB a2 c j = gB a1 c j := by
          unfold f_X5_begin
          rw [if_pos hx51, if_pos hx51, if_pos hx51, nI_clamp (by omega), vn_0]
          refine ⟨_, rfl, ⟨?_, ?_, ?_⟩, ?_, fun j hj => ?_, fun c j hc => ?_, fun _ _ => rfl⟩
          · rw [gA_sA, if_neg (by decide), gA_sA, if_neg (by decide), gA_sA, if_pos rfl, upd_at, if_pos rfl]; rfl
          · rw [gA_sA, if_neg (by decide), gA_sA, if_pos rfl, upd_at, if_pos rfl]; rfl
          · rw [gA_sA, if_pos rfl, upd_at, if_pos rfl]; rfl
          · rw [gI_sA, gI_sA, gI_sA, gI_sI, if_pos rfl]
          · rw [gI_sA, gI_sA, gI_sA, gI_sI, if_neg hj]
          · rw [gA_sA]
            by_cases q14 : c = 14
            · rw [if_pos q14, upd_at, if_neg (by omega), q14]
            · rw [if_neg q14, gA_sA]
              by_cases q13 : c = 13
              · rw [if_pos q13, upd_at, if_neg (by omega), q13]
              · rw [if_neg q13, gA_sA]
                by_cases q12 : c = 12
                · rw [if_pos q12, upd_at, if_neg (by omega), q12]
                · rw [if_neg q12]; rfl
        obtain ⟨a2, g1, g2, g3, g4, g5, g6⟩ := hbg
        have fp2 : zfp a a2 := zfp_tr (zfp_x x3) ⟨fun j hj => g4 j (by omega), fun c j hc => g5 c j (by omega), g6⟩
        refine ⟨a2, b3, znxt T tl p, (e, bo, k) :: P, (false, false, 0), true, CS, RS, ?_, ?_, by omega, ⟨⟨hnr.2.1, zfp_A hA fp2, ?_, zatk_f x2 (g4 6 (by decide)) (g4 7 (by decide)) (g4 8 (by decide)), ?_⟩, ⟨?_, ?_, ?_⟩, ⟨?_, ?_, ?_, ?_, ?_⟩, ⟨g2, ⟨?_, zfg_keep hfg (fun c j hc hj => ?_)⟩, fun z => by cases z⟩, ⟨?_, ?_, ?_⟩, ⟨?_, ?_⟩, zsem_open hsem, hv1, hv2⟩, fp2, ⟨fun j hj => ?_, fun c j hc => ?_⟩⟩
        · rw [x1, z_sbind, e12, nI_1, g1]; rfl
        · rw [u1]; rfl
        · exact ⟨(u3 14 (by decide)).trans hB2.1, h120, fun j hj => by rw [u4 52 j (by decide)]; exact hB2.2.2 j hj⟩
        · rw [u3 16 (by decide), gI_sI, if_pos rfl, hnx]
        · rw [g4 10 (by decide), x3.1 10 (by decide) (by decide) (by decide)]; exact h10
        · rw [g4 11 (by decide), x3.1 11 (by decide) (by decide) (by decide)]; exact h11
        · rw [u3 15 (by decide), gI_sI, if_neg (by decide), gI_sI, if_neg (by decide), r3 15 (by decide), w5 15 (by decide) (by decide)]; exact h15
        · rw [g3, List.length_cons]
        · rw [u3 25 (by decide), gI_sI, if_neg (by decide), gI_sI, if_pos rfl, List.length_cons]
        · rw [List.length_cons]; omega
        · rw [g4 13 (by decide), x3.1 13 (by decide) (by decide) (by decide)]; exact h13
        · rw [u3 26 (by decide), gI_sI, if_neg (by decide), gI_sI, if_neg (by decide), r3 26 (by decide), w5 26 (by decide) (by decide)]; exact h26
        · exact ⟨by rw [g5 12 _ (by omega), x3.2.1]; exact hf1.1, by rw [g5 13 _ (by omega), x3.2.1]; simpa using hf1.2.1, by rw [g5 14 _ (by omega), x3.2.1]; exact hf1.2.2⟩
        · rw [g5 c j (by omega), x3.2.1]
        · exact ⟨by rw [g4 9 (by decide), x3.1 9 (by decide) (by decide) (by decide)]; exact hcs.1, hcs.2.1, fun i hi => by rw [g5 9 i (by omega), g5 10 i (by omega), g5 11 i (by omega), x3.2.1, x3.2.1, x3.2.1]; exact hcs.2.2 i hi⟩
        · exact ⟨(u3 20 (by decide)).trans hrs2.1, fun i hi => by rw [u4 53 i (by decide), u4 54 i (by decide)]; exact hrs2.2 i hi⟩
        · exact u2
        · show CS.length + 0 + (zpn (e, bo, k) true + zpP P) ≤ _
          omega
        · show RS.length + (3 :: (zlv (e, bo, k) ++ zvp P)).length ≤ _
          rw [List.length_cons]
          omega
        · rw [u3 j (by omega), gI_sI, if_neg (by omega), gI_sI, if_neg (by omega)]; exact fq2.1 j hj
        · rw [u4 c j (by omega)]; exact fq2.2 c j hc
    · rw [decide_eq_false (fun z => c1 z.2), if_pos (show bI false = 0 from rfl)]
      simp only []
      rw [if_neg (show ¬ nI (T (zskp T tl p)) = 40 from fun z => c1 ((nI_eq (b := 40) (by omega) (by decide)).mp z))]
      have e18 : gI b2 18 = nI (if ztk T tl p = 1 then znxt T tl p else zskp T tl p) := by rw [r3 18 (by decide)]; exact w3
      have e17 : gJ b2 17 = nJ (zwn (zwt T tl p)) := by rw [r5]; exact w4
      rcases z_leaf (N := N) hA hB2 hz hp r2 e18 e17 h10 hcs (by omega) hrs2 hwb2 (by omega) hN with ⟨q, x, x2, a2, b3, p2, k1, k2, k3, k4, k5, k6, k7, k8, k9, k10, k11, k12, k13, k14, k15, k16, k17⟩ | ⟨a2, b3, f, st, k1, k2, k3⟩
      · left
        have e12 : gI a2 12 = nI P.length := (k15.1 12 (by decide)).trans h12
        have hf2 : zf1 a2 P.length (zod k) bo e := ⟨(k15.2.1 12 _ (by decide) (by decide) (by decide)).trans hf1.1, by rw [k15.2.1 13 _ (by decide) (by decide) (by decide)]; simpa using hf1.2.1, (k15.2.1 14 _ (by decide) (by decide) (by decide)).trans hf1.2.2⟩
        have hc1' : CS.length + ((zod k).toNat + bo.toNat + e.toNat) + zpP P ≤ p := by
          unfold zpn at hc1
          simp only [Bool.and_true] at hc1
          exact hc1
        obtain ⟨a3, m1, m2, m3, m4, m5⟩ := f5_endTest k7 e12 hP4 hf2 (by rw [List.length_append, List.length_singleton]; omega)
        have fp3 : zfp a a3 := zfp_tr (b := a2) ⟨fun j hj => k15.1 j (by omega), fun c j hc => k15.2.1 c j (by omega) (by omega) (by omega), k15.2.2⟩ ⟨fun j hj => m5.1 j (by omega) (by omega), fun c j hc => m5.2.1 c j (by omega), m5.2.2.2⟩
        refine ⟨a3, b3, p2, P, (e, bo, 0), false, CS ++ ([(q, x)] ++ (zeI (zod k) ++ zeA bo)), RS ++ ([(q, x2)] ++ zeN k), ?_, ?_, k11, ⟨⟨k12, zfp_A hA fp3, ?_, zatk_f k13 (m5.1 6 (by decide) (by decide)) (m5.1 7 (by decide) (by decide)) (m5.1 8 (by decide) (by decide)), k14⟩, ⟨?_, ?_, ?_⟩, ⟨?_, ?_, hP4, m4, k10⟩, ⟨?_, zfg_keep hfg (fun c j hc hj => ?_), fun _ => rfl⟩, ⟨?_, k8, k9⟩, ⟨?_, ?_⟩, zsem_leaf hsem hP4 k3 k4, ?_, ?_⟩, fp3, ⟨fun j hj => ?_, fun c j hc => ?_⟩⟩
        · rw [k1, z_sbind, m1]; rfl
        · rw [k2]; rfl
        · exact ⟨by rw [k16 14 (by decide)]; exact hB2.1, h120, fun j hj => by rw [k17 52 j (by decide) (by decide)]; exact hB2.2.2 j hj⟩
        · rw [m5.1 10 (by decide) (by decide), k15.1 10 (by decide)]; exact h10
        · rw [m5.1 11 (by decide) (by decide), k15.1 11 (by decide)]; exact h11
        · rw [k16 15 (by decide), r3 15 (by decide), w5 15 (by decide) (by decide)]; exact h15
        · rw [m5.1 12 (by decide) (by decide)]; exact e12
        · rw [k16 25 (by decide)]; exact e25
        · exact ⟨m3.1, by rw [Bool.and_false]; exact m3.2.1, m3.2.2⟩
        · rcases hc with hc | hc | hc
          · rw [m5.2.2.1 c j (Or.inl hc) (by omega), k15.2.1 c j (by omega) (by omega) (by omega)]
          · rw [m5.2.2.1 c j (Or.inr hc) (by omega), k15.2.1 c j (by omega) (by omega) (by omega)]
          · rw [m5.2.1 c j (by omega), k15.2.1 c j (by omega) (by omega) (by omega)]
        · rw [List.append_assoc] at m2
          exact m2
        · rw [List.length_append, List.length_append, List.length_singleton, List.length_append, zeI_len, zeA_len]
          unfold zpn
          simp only [Bool.and_false]
          show _ + ((zod 0).toNat + 0 + e.toNat) + _ ≤ _
          rw [show (zod 0).toNat = 0 from rfl]
          omega
        · rw [List.length_append, List.length_append, List.length_singleton, zeN_len, List.length_append, zlv_len]
          rw [List.length_append, zlv_len] at hc2
          omega
        · exact zvd_app hv1 (zvd_app (fun i hi => by rw [List.mem_singleton.mp hi]; exact k5) (zvd_app (zvd_I _) (zvd_A _)))
        · exact zvd_app hv2 (zvd_app (fun i hi => by rw [List.mem_singleton.mp hi]; exact k6) (zvd_N _))
        · rw [k16 j (by omega)]; exact fq2.1 j hj
        · rw [k17 c j (by omega) (by omega)]; exact fq2.2 c j hc
      · right
        obtain ⟨d1, d2, d3, d4, d5, d6, d7, d8⟩ := k3
        have e12 : gI a2 12 = nI P.length := d6.trans h12
        obtain ⟨a3, m1, m2, m3, m4⟩ := f5_endTestT d5 e12 hP4
        refine ⟨a3, b3, f, st, ?_, ?_, by omega, by omega, ?_, ?_, d4, m2, ⟨P.length, hP4, ?_⟩, zfp_tr d7 m4, zfq_tr fq2 d8⟩
        · rw [k1, z_sbind, m1]; rfl
        · rw [k2]; rfl
        · rw [m3 10 (by decide) (by decide)]; exact d2
        · rw [m3 11 (by decide) (by decide)]; exact d3
        · rw [m3 12 (by decide) (by decide)]; exact e12
