/-! the text's start and end -/
theorem zInv_rd {a a2 b b2 : xT} (h : zInv a b) (f : zfp (sI a 5 0) a2) (g : zfq (sI b 14 0) b2) (he : gI a2 11 = gI b2 15) : zInv a2 b2 := by
  obtain ⟨n, kd, t, d, hb, ha, hB, ⟨ls, hls⟩, hlo, htx, hf, hca⟩ := h
  have fI : ∀ j, (j < 6 ∨ 13 < j) → j ≠ 5 → gI a2 j = gI a j := fun j hj h5 => by rw [f.1 j hj, gI_sI, if_neg h5]
  have gI' : ∀ j, (j < 15 ∨ 26 < j) → j ≠ 14 → gI b2 j = gI b j := fun j hj h5 => by rw [g.1 j hj, gI_sI, if_neg h5]
  refine ⟨n, kd, t, d, hb, zis_keep ha (fun j hj => fI j (by omega) (by omega)), zis_keep hB (fun j hj => gI' j (by omega) (by omega)), ⟨ls, fun k hk => ⟨(hls k hk).1, zlA_keep (hls k hk).2.1 (fI _ (by omega) (by omega)) (fun i => f.2.1 _ _ (by omega)) (fun i => f.2.2 _ _), zlB_keep (hls k hk).2.2 (g.2 _ _ (by decide)) (fun i => g.2 _ _ (by decide))⟩⟩, zlo_keep hlo (fun i => f.2.1 _ _ (by decide)) (fun i => g.2 _ _ (by decide)), ⟨0, by decide, ?_, ?_, fun j hj => absurd hj (Nat.not_lt_zero j)⟩, he, zca_keep hca (fI _ (by decide) (by decide)) (fI _ (by decide) (by decide)) (fI _ (by decide) (by decide)) (fun i => f.2.1 _ _ (by decide))⟩
  · rw [f.1 5 (by decide), gI_sI, if_pos rfl]; rfl
  · rw [g.1 14 (by decide), gI_sI, if_pos rfl]; rfl
theorem zfp_s {a a2 : xT} (h : zfp a a2) : zfp (sI a 5 0) (sI a2 5 0) := by
  refine ⟨fun j hj => ?_, fun c j hc => h.2.1 c j hc, fun c j => h.2.2 c j⟩
  rw [gI_sI, gI_sI]
  by_cases c : j = 5
  · rw [if_pos c, if_pos c]
  · rw [if_neg c, if_neg c]; exact h.1 j hj
theorem zfq_s {a a2 : xT} (h : zfq a a2) : zfq (sI a 14 0) (sI a2 14 0) := by
  refine ⟨fun j hj => ?_, fun c j hc => h.2 c j hc⟩
  rw [gI_sI, gI_sI]
  by_cases c : j = 14
  · rw [if_pos c, if_pos c]
  · rw [if_neg c, if_neg c]; exact h.1 j hj
theorem f5_start {a : xT} {T : Nat → Nat} {tl N : Nat} (hA : ztA a T tl) (hN : 200 ≤ N) : ∃ a1 a2, f_X5_begin 0 (sI (sI (sI (sI a 9 0) 10 0) 11 (-1)) 13 1) = some a1 ∧ f_X6_rewind N a1 = some a2 ∧ zatk a2 T tl 0 ∧ zfp a a2 ∧ gI a2 9 = 0 ∧ gI a2 10 = 0 ∧ gI a2 11 = -1 ∧ gI a2 12 = 0 ∧ gI a2 13 = 1 ∧ zf1 a2 0 false false false := by
  unfold f_X5_begin f_X6_rewind
  rw [if_pos (by decide), if_pos (by decide), if_pos (by decide), vn_0]
  generalize hq : sA (sA (sA (sI (sI (sI (sI (sI a 9 0) 10 0) 11 (-1)) 13 1) 12 0) 12 (upd (gA (sI (sI (sI (sI a 9 0) 10 0) 11 (-1)) 13 1) 12) (Int32.toNatClampNeg 0) 0)) 13 (upd (gA (sI (sI (sI (sI a 9 0) 10 0) 11 (-1)) 13 1) 13) (Int32.toNatClampNeg 0) 0)) 14 (upd (gA (sI (sI (sI (sI a 9 0) 10 0) 11 (-1)) 13 1) 14) (Int32.toNatClampNeg 0) 0) = q
  have fq : zfp a q := by
    subst hq
    refine ⟨fun j hj => ?_, fun c j hc => ?_, fun c j => rfl⟩
    · simp only [gI_sI, gI_sA]
      rw [if_neg (by omega), if_neg (by omega), if_neg (by omega), if_neg (by omega), if_neg (by omega)]
    · simp only [gA_sI, gA_sA]
      rw [if_neg (by omega), if_neg (by omega), if_neg (by omega)]
  have fq8 : zfp a (sI q 8 0) := zfp_tr fq ⟨fun j hj => by rw [gI_sI, if_neg (by omega)], fun _ _ _ => rfl, fun _ _ => rfl⟩
  obtain ⟨a2, e1, e2, e3⟩ := f6_adv (N := N) (p := 0) (zfp_A hA fq8) rfl (Nat.zero_le _) hN
  refine ⟨q, a2, rfl, by rw [e1]; rfl, e2, zfp_tr fq8 (zfp_x e3), ?_, ?_, ?_, ?_, ?_, ?_, ?_, ?_⟩
  · rw [e3.1 9 (by decide) (by decide) (by decide)]; subst hq; rfl
  · rw [e3.1 10 (by decide) (by decide) (by decide)]; subst hq; rfl
  · rw [e3.1 11 (by decide) (by decide) (by decide)]; subst hq; rfl
  · rw [e3.1 12 (by decide) (by decide) (by decide)]; subst hq; rfl
  · rw [e3.1 13 (by decide) (by decide) (by decide)]; subst hq; rfl
  · rw [e3.2.1]; subst hq; rfl
  · rw [e3.2.1]; subst hq; rfl
  · rw [e3.2.1]; subst hq; rfl
theorem z_txt {a b : xT} (h : ztx a b) : ∃ T tl, ztA a T tl ∧ ztB b T tl := by
  obtain ⟨tl, h1, h2, h3, h4⟩ := h
  refine ⟨fun j => (gA a 7 j).toNatClampNeg, tl, ⟨h2, h1, fun j hj => ?_⟩, ⟨h3, h1, fun j hj => ?_⟩⟩
  · obtain ⟨_, c, hc, e⟩ := h4 j hj
    show gA a 7 j = nI (gA a 7 j).toNatClampNeg ∧ (gA a 7 j).toNatClampNeg < 256
    rw [e, nI_clamp (by omega)]
    exact ⟨rfl, hc⟩
  · obtain ⟨e0, c, hc, e⟩ := h4 j hj
    show gA b 52 j = nI (gA a 7 j).toNatClampNeg ∧ (gA a 7 j).toNatClampNeg < 256
    rw [← e0, e, nI_clamp (by omega)]
    exact ⟨rfl, hc⟩
theorem z_text {a b : xT} {N : Nat} (v1 : Int32) (h : zInv a b) (hN : 5000 ≤ N) : (∃ a2 b2 b3 CS RS, f_X5_parse N a = some a2 ∧ gI a2 10 = 0 ∧ f_X8_read_L43 N v1 N 0 (sI (sI (sI (sI (sI (sI b 15 (-1)) 16 0) 20 0) 23 0) 25 0) 26 1) = some (0, b2) ∧ f_X8_work N 0 (sI b2 14 0) = some b3 ∧ zcs a2 CS ∧ zrs b3 RS ∧ (∀ i ∈ CS, zvd i) ∧ (∀ i ∈ RS, zvd i) ∧ (∀ f, zok7 f → ∃ v, zx f RS [] = some [v] ∧ zx f CS [] = some [v]) ∧ RS.length ≤ 130 ∧ zInv (sI a2 5 0) b3) ∨ ∃ a2 b2 f, 1 ≤ f ∧ f ≤ 3 ∧ f_X5_parse N a = some a2 ∧ gI a2 10 = nI f ∧ f_X8_read_L43 N v1 N 0 (sI (sI (sI (sI (sI (sI b 15 (-1)) 16 0) 20 0) 23 0) 25 0) 26 1) = some (nI f, b2) ∧ zInv (sI a2 5 0) (sI b2 14 0) := by
  obtain ⟨T, tl, hA, hB⟩ := z_txt h.choose_spec.choose_spec.choose_spec.choose_spec.2.2.2.2.2.1
  obtain ⟨a1, a2, e1, e2, ek, ef, e9, e10, e11, e12, e13, efl⟩ := f5_start (N := N) hA (by omega)
  generalize hq : sI (sI (sI (sI (sI (sI b 15 (-1)) 16 0) 20 0) 23 0) 25 0) 26 1 = q
  have fq : zfq b q := by
    subst hq
    refine ⟨fun j hj => ?_, fun c j hc => rfl⟩
    simp only [gI_sI]
    rw [if_neg (by omega), if_neg (by omega), if_neg (by omega), if_neg (by omega), if_neg (by omega), if_neg (by omega)]
  have hJ : zJ T tl a2 q 0 [] (false, false, 0) true [] [] := by
    refine ⟨⟨Nat.zero_le _, zfp_A hA ef, zfq_B hB fq, ek, by subst hq; rfl⟩, ⟨e10, e11, by subst hq; rfl⟩, ⟨e12, by subst hq; rfl, by decide, e13, by subst hq; rfl⟩, ⟨efl, trivial, fun z => by cases z⟩, ⟨⟨e9, by decide, fun i hi => absurd hi (Nat.not_lt_zero i)⟩, ⟨by subst hq; rfl, fun i hi => absurd hi (Nat.not_lt_zero i)⟩, ⟨by subst hq; rfl, trivial⟩⟩, ⟨by decide, by decide⟩, zsem_0, fun i hi => absurd hi List.not_mem_nil, fun i hi => absurd hi List.not_mem_nil⟩
  have h120 := hA.2.1
  unfold f_X5_parse
  rw [e1, z_sbind, e2, z_sbind]
  rcases z_parse (N := N) v1 (by omega) tl 0 0 [] _ true [] [] a2 q N N hJ (by omega) (Nat.le_refl _) (by omega) (by omega) with ⟨a3, b3, p2, e, bo, CS, RS, r1, r2, hJ2, f1, f2⟩ | ⟨a3, b3, f, st, r1, r2, ho⟩
  · left
    obtain ⟨⟨hp, hA2, hB2, hz, h16⟩, ⟨h10, h11, h15⟩, ⟨h12, h25, hP4, h13, h26⟩, ⟨hf, hg, hk0⟩, ⟨hcs, hrs, hwb⟩, ⟨hc1, hc2⟩, hsem, hv1, hv2⟩ := hJ2
    have hpn : zpn (e, bo, 0) false = e.toNat := by cases e <;> cases bo <;> rfl
    rw [hpn] at hc1
    change CS.length + e.toNat + 0 ≤ p2 at hc1
    obtain ⟨a4, s1, s2, s3⟩ := f5_end (e := e) hcs h12 (by decide) hf (by omega)
    obtain ⟨b4, t1, t2, t3, t4, t5⟩ := zw_all (b := sI b3 14 0) (N := N) (P := []) ⟨by rw [gI_sI, if_neg (by decide)]; exact hrs.1, hrs.2⟩ ⟨by rw [gI_sI, if_neg (by decide)]; exact hwb.1, zwv_keep hwb.2 (fun j _ => rfl)⟩ (by omega) (by omega)
    have r1' : f_X5_parse_L31 N N 0 a2 = some a3 := r1
    refine ⟨a4, b3, b4, CS ++ zeO e, RS ++ (zeA bo ++ zeO e), ?_, ?_, r2, t1, s2, t3, zvd_app hv1 (zvd_O e), zvd_app hv2 (zvd_app (zvd_A bo) (zvd_O e)), zsem_end hsem, ?_, ?_⟩
    · rw [r1', z_sbind, if_pos (show gI a3 13 = 0 from h13), if_pos (show gI a3 12 ≤ 0 by rw [h12]; decide), s1]; rfl
    · rw [s3.1 10 (by decide)]; exact h10
    · rw [List.length_append, List.length_append, zeA_len, zeO_len]
      rw [List.length_append, zlv_len] at hc2
      omega
    · refine zInv_rd h (zfp_s (zfp_tr ef (zfp_tr f1 (zfu_p s3)))) (zfq_tr (zfq_s (zfq_tr fq f2)) ⟨fun j hj => t4 j (by omega) (by omega), fun c j hc => t5 c j (by omega) (by omega)⟩) ?_
      rw [gI_sI, if_neg (by decide), s3.1 11 (by decide), h11, t4 15 (by decide) (by decide), gI_sI, if_neg (by decide), h15]
  · right
    obtain ⟨o1, o2, o3, o4, ⟨i, hi, o5⟩, o6, o7, o8⟩ := ho
    have r1' : f_X5_parse_L31 N N 0 a2 = some a3 := r1
    have key : ∀ a4 : xT, zfp a3 a4 → zln a4 → gI a4 12 = nI i → gI a4 10 = nI f → gI a4 11 = nI st → ∃ a5, f_X5_end a4 = some a5 ∧ gI a5 10 = nI f ∧ zInv (sI a5 5 0) (sI b3 14 0) := fun a4 k1 k2 k3 k4 k5 => by
      obtain ⟨a5, s1, s2, s3⟩ := f5_endT k2 k3 hi
      refine ⟨a5, s1, (s3.1 10 (by decide)).trans k4, zInv_rd h (zfp_s (zfp_tr ef (zfp_tr o6 (zfp_tr k1 (zfu_p s3))))) (zfq_s (zfq_tr fq o7)) ?_⟩
      rw [gI_sI, if_neg (by decide), s3.1 11 (by decide), k5, gI_sI, if_neg (by decide), o3]
    have hfn : ¬ nI f = 0 := fun z => by rw [nI_eq0 (by omega)] at z; omega
    have fin : ∃ a4 a5, f_X5_blame 1 a3 = some a4 ∧ f_X5_end a4 = some a5 ∧ gI a5 10 = nI f ∧ zInv (sI a5 5 0) (sI b3 14 0) := by
      rcases o8 with ⟨z1, z2⟩ | ⟨z0, z1, z2, z3⟩
      · obtain ⟨a5, u1, u2, u3⟩ := key a3 (zfp_refl _) o4 o5 z1 z2
        refine ⟨a3, a5, ?_, u1, u2, u3⟩
        unfold f_X5_blame
        rw [z1, if_neg hfn]
      · subst z0
        obtain ⟨len, l1, l2⟩ := o4
        obtain ⟨a5, u1, u2, u3⟩ := key (sI (sI a3 10 1) 11 (gI a3 7)) ⟨fun j hj => by rw [gI_sI, if_neg (by omega), gI_sI, if_neg (by omega)], fun _ _ _ => rfl, fun _ _ => rfl⟩ ⟨len, l1, l2⟩ o5 rfl z2
        refine ⟨_, a5, ?_, u1, u2, u3⟩
        unfold f_X5_blame
        rw [if_pos z1]
    rw [r1', z_sbind]
    by_cases c1 : gI a3 13 = 0
    · rw [if_pos c1]
      by_cases c2 : gI a3 12 ≤ 0
      · rw [if_pos c2]
        rcases o8 with ⟨z1, z2⟩ | ⟨z0, z1, z2, z3⟩
        · obtain ⟨a5, u1, u2, u3⟩ := key a3 (zfp_refl _) o4 o5 z1 z2
          exact ⟨a5, b3, f, o1, o2, by rw [u1]; rfl, u2, r2, u3⟩
        · exact (z3.elim (fun z => absurd c1 z) (fun z => absurd c2 z))
      · rw [if_neg c2]
        obtain ⟨a4, a5, u0, u1, u2, u3⟩ := fin
        exact ⟨a5, b3, f, o1, o2, by rw [u0, z_sbind, u1]; rfl, u2, r2, u3⟩
    · rw [if_neg c1]
      obtain ⟨a4, a5, u0, u1, u2, u3⟩ := fin
      exact ⟨a5, b3, f, o1, o2, by rw [u0, z_sbind, u1]; rfl, u2, r2, u3⟩
