/-! sum, and all tests -/
theorem zwt_tk {T : Nat → Nat} {tl p k : Nat} (hk : k < 10) (h : zwt T tl p = zwd k) : ztk T tl p = 1 := by
  refine Classical.byContradiction fun c => ?_
  unfold zwt at h
  rw [if_neg c] at h
  have := (zwd_str k hk).2.1
  rw [← h] at this
  simp at this
theorem z_sum {a b : xT} {T : Nat → Nat} {tl nx N : Nat} {CS RS : List (Nat × Nat)} {e bo : Bool} {k : Nat} {P : List zLv} (hA : ztA a T tl) (hB : ztB b T tl) (h8 : gI a 8 = nI nx) (h18 : gI b 18 = nI nx) (hnx : nx ≤ tl) (h10 : gI a 10 = 0) (hcs : zcs a CS) (hcl : CS.length < 120) (hr : zrs b RS) (hw : zwb b (zlv (e, bo, k) ++ zvp P)) (hl : RS.length + 1 + (zlv (e, bo, k) ++ zvp P).length ≤ 130) (hN : 200 ≤ N) :
    (∃ v a2 b2 p2, f_X5_takeSum N a = some a2 ∧ (f_X8_readSum N (sI b 16 (gI b 18))).bind (fun q184 => if q184.1 = 0 then (f_X8_step 4 (gI q184.2 19) q184.2).bind (fun q228 => (f_X8_work N 2 q228).bind (fun q233 => some (q184.1, (sI q233 26 0)))) else some (q184.1, q184.2)) = some (0, b2) ∧ zvd (4, v) ∧ zcs a2 (CS ++ [(4, v)]) ∧ zrs b2 (RS ++ ([(4, v)] ++ zeN k)) ∧ zwb b2 (zlv (e, bo, 0) ++ zvp P) ∧ gI b2 26 = 0 ∧ nx < p2 ∧ p2 ≤ tl ∧ zatk a2 T tl p2 ∧ gI b2 16 = nI p2 ∧ zfl7 a a2 ∧ (∀ j, (j < 16 ∨ j = 25 ∨ 26 < j) → gI b2 j = gI b j) ∧ ∀ c j, c ≠ 53 → c ≠ 54 → gA b2 c j = gA b c j) ∨
    (∃ a2 b2 f st, f_X5_takeSum N a = some a2 ∧ (f_X8_readSum N (sI b 16 (gI b 18))).bind (fun q184 => if q184.1 = 0 then (f_X8_step 4 (gI q184.2 19) q184.2).bind (fun q228 => (f_X8_work N 2 q228).bind (fun q233 => some (q184.1, (sI q233 26 0)))) else some (q184.1, q184.2)) = some (nI f, b2) ∧ zbad a2 b2 a b f st) := by
  obtain ⟨a1, x1, x2, x3⟩ := f6_adv (N := N) hA h8 hnx hN
  have hA1 := zfp_A hA (zfp_x x3)
  have hcs1 := zcs_x hcs x3
  have h101 : gI a1 10 = 0 := (x3.1 10 (by decide) (by decide) (by decide)).trans h10
  have hB1 : ztB (sI b 16 (nI nx)) T tl := hB
  unfold f_X5_takeSum f_X8_readSum
  rw [x1, z_sbind, h18]
  have z := z_num (lo := 0) (hi := 98) (N := N) hA1 hB1 x2 (show gI (sI b 16 (nI nx)) 16 = nI nx from rfl) hnx (by decide) (by decide) hN
  rw [show nI 0 = (0 : Int32) from rfl, show nI 98 = (98 : Int32) from rfl] at z
  rcases z with ⟨v, a2, b2, p2, y1, y2, y3, y4, y5, y6, y7, y8, y9, y10, y11, y12⟩ | ⟨f, b2, y1, y2, y3, y4, y5, y6⟩
  · rw [y1, y2]
    simp only [z_sbind]
    have hA2 := zfp_A hA1 (zfp_x y10)
    have hcs2 := zcs_x hcs1 y10
    have h102 : gI a2 10 = 0 := (y10.1 10 (by decide) (by decide) (by decide)).trans h101
    have hB2 : ztB b2 T tl := ⟨(y11 14 (by decide) (by decide)).trans hB1.1, hB1.2.1, fun j hj => by rw [y12]; exact hB1.2.2 j hj⟩
    obtain ⟨b3, w1, w2, w3, w4, w5, w6, w7⟩ := f8_word (N := N) hB2 y8 y6 hN
    rw [f6_isWord hA2 y7 y6 (by decide : (9 : Nat) < 10) hN, z_sbind, if_pos (show (0 : Int32) ≤ 0 by decide), w1]
    simp only [z_sbind]
    rw [zcd_of, z_sbind]
    have hsame := z_same (k := 9) y6 (by decide) w4
    by_cases c : zwt T tl p2 = zwd 9
    · have htk := zwt_tk (by decide) c
      have hnr := znxt_rng (T := T) y6
      rw [if_pos htk] at w3
      rw [decide_eq_true c, if_neg (show ¬ bI true = 0 by decide), if_pos (hsame.mpr c), w3]
      obtain ⟨a3, m1, m2, m3⟩ := f6_adv (N := N) hA2 y7.2.2 hnr.2.1 hN
      have hA3 := zfp_A hA2 (zfp_x m3)
      have hcs3 := zcs_x hcs2 m3
      have h103 : gI a3 10 = 0 := (m3.1 10 (by decide) (by decide) (by decide)).trans h102
      have hB3 : ztB (sI b3 16 (nI (znxt T tl p2))) T tl := ⟨(w5 14 (by decide) (by decide)).trans hB2.1, hB2.2.1, fun j hj => by show gA b3 52 j = _ ∧ _; rw [w6]; exact hB2.2.2 j hj⟩
      have z := z_num (lo := 1) (hi := 99) (N := N) hA3 hB3 m2 (show gI (sI b3 16 (nI (znxt T tl p2))) 16 = nI (znxt T tl p2) from rfl) hnr.2.1 (by decide) (by decide) hN
      rw [show nI 1 = (1 : Int32) from rfl, show nI 99 = (99 : Int32) from rfl] at z
      have hge : zskp T tl p2 ≤ znxt T tl p2 := hnr.1
      have hge2 := (zskp_rng (T := T) y6).1
      rw [m1, z_sbind]
      rcases z with ⟨u, a4, b4, p4, s1, s2, s3, s4, s5, s6, s7, s8, s9, s10, s11, s12⟩ | ⟨f, b4, s1, s2, s3, s4, s5, s6⟩
      · left
        have hcs4 := zcs_x hcs3 s10
        obtain ⟨a5, g1, g2, g3⟩ := f5_put (k := 4) (x := 100 * v + u) hcs4 hcl
        have hnm : nI (znm (4, 100 * v + u)) = nI v := by unfold znm; rw [if_pos rfl]; congr 1; show (100 * v + u) / 100 = v; omega
        have hdv : nI (zdv (4, 100 * v + u)) = nI u := by unfold zdv; rw [if_pos rfl]; congr 1; show (100 * v + u) % 100 = u; omega
        rw [hnm, hdv, show nI (zk7 4) = (2 : Int32) from rfl] at g1
        have e19 : 100 * gI b2 19 + gI b4 19 = nI (100 * v + u) := by rw [y9, s9, show (100 : Int32) = nI 100 from rfl, pk_mul, nI_add]
        have hr4 : zrs (sI b4 19 (nI (100 * v + u))) RS := ⟨by
          show gI b4 20 = _
          rw [s11 20 (by decide) (by decide)]
          exact (w5 20 (by decide) (by decide)).trans ((y11 20 (by decide) (by decide)).trans hr.1), fun i hi2 => by
          show gA b4 53 i = _ ∧ (_ ∨ gA b4 54 i = _)
          rw [s12, s12]
          show gA b3 53 i = _ ∧ (_ ∨ gA b3 54 i = _)
          rw [w6, w6, y12, y12]
          exact hr.2 i hi2⟩
        have hw4 : zwb (sI b4 19 (nI (100 * v + u))) (zlv (e, bo, k) ++ zvp P) := ⟨by
          show gI b4 23 = _
          rw [s11 23 (by decide) (by decide)]
          exact (w5 23 (by decide) (by decide)).trans ((y11 23 (by decide) (by decide)).trans hw.1), zwv_keep hw.2 (fun j _ => by
          show gA b4 55 j = _
          rw [s12]
          show gA b3 55 j = _
          rw [w6, y12]; rfl)⟩
        obtain ⟨b5, t1, t2, t3, t4, t5, t6⟩ := f8_leafend (N := N) (q := 4) (x := 100 * v + u) (v := gI (sI b4 19 (nI (100 * v + u))) 19) hr4 hw4 hl (Or.inr rfl) hN 0
        refine ⟨100 * v + u, a5, b5, p4, ?_, ?_, Or.inr (Or.inr (Or.inl ⟨rfl, by show 1 ≤ (100 * v + u) % 100; omega, by show 100 * v + u ≤ 9899; omega⟩)), g2, t2, t3, t4, by omega, s6, zatk_f s7 (g3.1 6 (by decide)) (g3.1 7 (by decide)) (g3.1 8 (by decide)), ?_, ⟨fun j hj => ?_, fun c j h1 h2 h3 => ?_, fun c j => ?_⟩, fun j hj => ?_, fun c j h1 h2 => ?_⟩
        · rw [s1, z_sbind, g1]; rfl
        · rw [s2, z_sbind]
          simp only [z_sbind, ↓reduceIte]
          rw [e19]
          exact t1
        · rw [t5 16 (by decide) (by decide) (by decide), gI_sI, if_neg (by decide), s8]
        · rw [g3.1 j (by omega), s10.1 j (by omega) (by omega) (by omega), m3.1 j (by omega) (by omega) (by omega), y10.1 j (by omega) (by omega) (by omega), x3.1 j (by omega) (by omega) (by omega)]
        · rw [g3.2.1 c j h1 h2 h3, s10.2.1, m3.2.1, y10.2.1, x3.2.1]
        · rw [g3.2.2, s10.2.2, m3.2.2, y10.2.2, x3.2.2]
        · rw [t5 j (by omega) (by omega) (by omega), gI_sI, if_neg (by omega), s11 j (by omega) (by omega), gI_sI, if_neg (by omega), w5 j (by omega) (by omega), y11 j (by omega) (by omega), gI_sI, if_neg (by omega)]
        · rw [t6 c j h1 h2, gA_sI, s12, gA_sI, w6, y12]; rfl
      · right
        rw [s2, f5_blame0 _ h103, z_sbind, z_sbind]
        obtain ⟨a5, g1, g2, g3⟩ := f5_putT 2 (nI v) (nI 1) (show zln (sI (sI a3 10 (nI f)) 11 (gI a3 7)) from zln_of hcs3)
        rw [show nI 1 = (1 : Int32) from rfl] at g1
        have hne : ¬ nI f = 0 := fun z => by rw [nI_eq0 (by omega)] at z; omega
        refine ⟨a5, sI b4 19 (100 * gI b2 19 + gI b4 19), f, zskp T tl (znxt T tl p2), ?_, ?_, s1, ?_, ?_, s4, g2, ?_, ?_, ⟨fun j hj => ?_, fun c j hc => ?_⟩⟩
        · rw [g1]; rfl
        · rw [s3, z_sbind]
          simp only [z_sbind, if_neg hne]
        · rw [g3.1 10 (by decide)]; rfl
        · rw [g3.1 11 (by decide), gI_sI, if_pos rfl]; exact m2.1
        · rw [g3.1 12 (by decide), gI_sI, if_neg (by decide), gI_sI, if_neg (by decide), m3.1 12 (by decide) (by decide) (by decide), y10.1 12 (by decide) (by decide) (by decide)]
          exact x3.1 12 (by decide) (by decide) (by decide)
        · refine zfp_tr (zfp_x x3) (zfp_tr (zfp_x y10) (zfp_tr (zfp_x m3) (zfp_tr (b := sI (sI a3 10 (nI f)) 11 (gI a3 7)) ⟨fun j hj => ?_, fun _ _ _ => rfl, fun _ _ => rfl⟩ (zfu_p g3))))
          rw [gI_sI, if_neg (by omega), gI_sI, if_neg (by omega)]
        · rw [gI_sI, if_neg (by omega), s5 j (by omega) (by omega) (by omega), gI_sI, if_neg (by omega), w5 j (by omega) (by omega), y11 j (by omega) (by omega), gI_sI, if_neg (by omega)]
        · rw [gA_sI, s6, gA_sI, w6, y12]; rfl
    · right
      rw [decide_eq_false c, if_pos (show bI false = 0 from rfl), if_neg (fun z => c (hsame.mp z)), f5_blame0 _ h102, z_sbind]
      unfold f_X8_fails
      refine ⟨_, sI b3 15 (gI b3 16), 1, zskp T tl p2, rfl, ?_, Or.inl rfl, rfl, ?_, ?_, zln_of hcs2, ?_, ?_, ⟨fun j hj => ?_, fun c j hc => ?_⟩⟩
      · simp only [z_sbind, if_neg z10]; rfl
      · rw [gI_sI, if_pos rfl]; exact y7.1
      · rw [gI_sI, if_pos rfl]; exact w2
      · rw [gI_sI, if_neg (by decide), gI_sI, if_neg (by decide), y10.1 12 (by decide) (by decide) (by decide)]
        exact x3.1 12 (by decide) (by decide) (by decide)
      · refine zfp_tr (zfp_x x3) (zfp_tr (zfp_x y10) ⟨fun j hj => ?_, fun _ _ _ => rfl, fun _ _ => rfl⟩)
        rw [gI_sI, if_neg (by omega), gI_sI, if_neg (by omega)]
      · rw [gI_sI, if_neg (by omega), w5 j (by omega) (by omega), y11 j (by omega) (by omega), gI_sI, if_neg (by omega)]
      · rw [gA_sI, w6, y12]; rfl
  · right
    have hne : ¬ nI f = 0 := fun z => by rw [nI_eq0 (by omega)] at z; omega
    have hbl : zatk (sI (sI a1 10 (nI f)) 11 (gI a1 7)) T tl nx := x2
    have hne10 : ¬ gI (sI (sI a1 10 (nI f)) 11 (gI a1 7)) 10 = 0 := hne
    have hAb : ztA (sI (sI a1 10 (nI f)) 11 (gI a1 7)) T tl := hA1
    have hlnb : zln (sI (sI a1 10 (nI f)) 11 (gI a1 7)) := zln_of hcs1
    have hfpb : zfp a (sI (sI a1 10 (nI f)) 11 (gI a1 7)) := zfp_tr (zfp_x x3) ⟨fun j hj => by rw [gI_sI, if_neg (by omega), gI_sI, if_neg (by omega)], fun _ _ _ => rfl, fun _ _ => rfl⟩
    have h12b : gI (sI (sI a1 10 (nI f)) 11 (gI a1 7)) 12 = gI a 12 := x3.1 12 (by decide) (by decide) (by decide)
    have h11b : gI (sI (sI a1 10 (nI f)) 11 (gI a1 7)) 11 = nI (zskp T tl nx) := x2.1
    rw [y2, f5_blame0 _ h101, z_sbind, z_sbind]
    simp only []
    have href : ((f_X8_readNumber N 0 98 (sI b 16 (nI nx))).bind (fun q4 => if q4.1 ≤ 0 then (f_X8_readWord N q4.2).bind (fun q20 => (f_X8_code 111 102 0 0 0).bind (fun q34 => if gJ q20 17 = q34 then (f_X8_readNumber N 1 99 (sI q20 16 (gI q20 18))).bind (fun q63 => some (q63.1, sI q63.2 19 (100 * gI q4.2 19 + gI q63.2 19))) else (f_X8_fails 1 (gI q20 16) q20).bind (fun q47 => some (q47.1, q47.2)))) else some (q4.1, q4.2))).bind (fun q184 => if q184.1 = 0 then (f_X8_step 4 (gI q184.2 19) q184.2).bind (fun q228 => (f_X8_work N 2 q228).bind (fun q233 => some (q184.1, (sI q233 26 0)))) else some (q184.1, q184.2)) = some (nI f, b2) := by
      rw [y3, z_sbind]
      simp only []
      rw [if_neg (show ¬ nI f ≤ (0 : Int32) from nI_ge (a := 0) (by omega) (by omega)), z_sbind]
      simp only [if_neg hne]
    rw [href]
    have hfq : zfq b b2 := ⟨fun j hj => by rw [y5 j (by omega) (by omega) (by omega), gI_sI, if_neg (by omega)], fun c j hc => y6 c j⟩
    rw [f6_isWord hAb hbl hnx (by decide : (9 : Nat) < 10) hN, z_sbind]
    generalize hab : sI (sI a1 10 (nI f)) 11 (gI a1 7) = ab at *
    have h10b : gI ab 10 = nI f := by rw [← hab]; rfl
    by_cases c : zwt T tl nx = zwd 9
    · have hnr := znxt_rng (T := T) hnx
      rw [decide_eq_true c, if_neg (show ¬ bI true = 0 by decide)]
      obtain ⟨a3, m1, m2, m3⟩ := f6_adv (N := N) hAb hbl.2.2 hnr.2.1 hN
      have hA3 := zfp_A hAb (zfp_x m3)
      have h103 : gI a3 10 = nI f := (m3.1 10 (by decide) (by decide) (by decide)).trans h10b
      have hln3 : zln a3 := by
        obtain ⟨len, l1, l2⟩ := hlnb
        exact ⟨len, l1, (m3.1 9 (by decide) (by decide) (by decide)).trans l2⟩
      have z := z_num (lo := 1) (hi := 99) (N := N) hA3 (show ztB (sI b 16 (nI (znxt T tl nx))) T tl from hB) m2 (show gI (sI b 16 (nI (znxt T tl nx))) 16 = nI (znxt T tl nx) from rfl) hnr.2.1 (by decide) (by decide) hN
      rw [show nI 1 = (1 : Int32) from rfl, show nI 99 = (99 : Int32) from rfl] at z
      have hnum : ∃ w a4, f_X5_takeNumber N 1 99 a3 = some (w, a4) ∧ zfx a3 a4 := by
        rcases z with ⟨u, a4, b4, p4, s1, s2, s3, s4, s5, s6, s7, s8, s9, s10, s11, s12⟩ | ⟨f2, b4, s1, s2, s3, s4, s5, s6⟩
        · exact ⟨_, a4, s1, s10⟩
        · rw [s2, f5_blame1 _ (by rw [h103]; exact hne)]
          exact ⟨_, a3, rfl, ⟨fun _ _ _ _ => rfl, fun _ _ => rfl, fun _ _ => rfl⟩⟩
      obtain ⟨w, a4, n1, n2⟩ := hnum
      have hln4 : zln a4 := by
        obtain ⟨len, l1, l2⟩ := hln3
        exact ⟨len, l1, (n2.1 9 (by decide) (by decide) (by decide)).trans l2⟩
      obtain ⟨a5, g1, g2, g3⟩ := f5_putT 2 0 w hln4
      rw [m1, z_sbind, n1, z_sbind]
      refine ⟨a5, b2, f, zskp T tl nx, ?_, rfl, y1, ?_, ?_, y4, g2, ?_, zfp_tr hfpb (zfp_tr (zfp_x m3) (zfp_tr (zfp_x n2) (zfu_p g3))), hfq⟩
      · rw [g1]; rfl
      · rw [g3.1 10 (by decide), n2.1 10 (by decide) (by decide) (by decide), h103]
      · rw [g3.1 11 (by decide), n2.1 11 (by decide) (by decide) (by decide), m3.1 11 (by decide) (by decide) (by decide), h11b]
      · rw [g3.1 12 (by decide), n2.1 12 (by decide) (by decide) (by decide), m3.1 12 (by decide) (by decide) (by decide), h12b]
    · rw [decide_eq_false c, if_pos (show bI false = 0 from rfl), f5_blame1 _ hne10, z_sbind]
      exact ⟨ab, b2, f, zskp T tl nx, rfl, rfl, y1, h10b, h11b, y4, hlnb, h12b, hfpb, hfq⟩
