/-! feed -/
theorem z_255 : ∀ i, i < 32 → (255 : Int32).toBitVec.getLsbD i = decide (i < 8) := by decide +kernel
theorem z_255L : ∀ i, i < 64 → (255 : Int64).toBitVec.getLsbD i = decide (i < 8) := by decide +kernel
theorem z_amt : ∀ k, k < 8 → ((((8 : Int32) * nI k).toInt64 &&& 63).toBitVec.smod 64).toNat = 8 * k := by decide +kernel
theorem z_amt7 : ∀ k, k < 8 → (((8 : Int32) * nI k).toInt64.toUInt64 &&& Int64.toUInt64 63) = UInt64.ofNat (8 * k) := by decide +kernel
theorem z_ushr {w : Int64} {s : UInt64} {j : Nat} (hj : j < 64) (hs : s.toNat = j) : (w.toUInt64 >>> s).toInt64.toBitVec = w.toBitVec >>> j := by
  apply BitVec.eq_of_toNat_eq
  show (w.toUInt64 >>> s).toNat = _
  rw [UInt64.toNat_shiftRight, hs, Nat.mod_eq_of_lt hj, BitVec.toNat_ushiftRight]
  rfl
theorem z_cbit (x : BitVec 64) (k i : Nat) : ((x.toNat >>> (8 * k)) % 256).testBit i = (decide (i < 8) && x.getLsbD (8 * k + i)) := by
  rw [show (256 : Nat) = 2 ^ 8 from rfl, Nat.testBit_mod_two_pow, Nat.testBit_shiftRight]
  rfl
theorem z_byte (v : Int64) {k : Nat} (hk : k < 8) : ∃ c, c < 256 ∧ (Int64.toInt32 (xlushr v (8 * nI k))) &&& 255 = nI c ∧ Int64.toInt32 ((v >>> (((8 * nI k) : Int32).toInt64 &&& 63)) &&& 255) = nI c := by
  refine ⟨(v.toBitVec.toNat >>> (8 * k)) % 256, Nat.mod_lt _ (by decide), ?_, ?_⟩
  · apply Int32.toBitVec_inj.mp
    have e : (xlushr v (8 * nI k)).toBitVec = v.toBitVec >>> (8 * k) := by
      unfold xlushr
      rw [z_amt7 k hk]
      exact z_ushr (by omega) (UInt64.toNat_ofNat_of_lt' (show 8 * k < UInt64.size from Nat.lt_of_lt_of_le (show 8 * k < 64 by omega) (by decide)))
    rw [Int32.toBitVec_and, Int64.toBitVec_toInt32, e]
    apply BitVec.eq_of_getLsbD_eq
    intro i hi
    rw [BitVec.getLsbD_and, z_255 i hi, BitVec.getLsbD_signExtend, if_pos (show i < 64 by omega), BitVec.getLsbD_ushiftRight]
    show _ = (BitVec.ofNat 32 _).getLsbD i
    rw [BitVec.getLsbD_ofNat, z_cbit]
    by_cases c : i < 8 <;> simp [c, hi]
  · apply Int32.toBitVec_inj.mp
    rw [Int64.toBitVec_toInt32, Int64.toBitVec_and, Int64.toBitVec_shiftRight, BitVec.sshiftRight', z_amt k hk]
    apply BitVec.eq_of_getLsbD_eq
    intro i hi
    rw [BitVec.getLsbD_signExtend, if_pos (show i < 64 by omega), BitVec.getLsbD_and, z_255L i (by omega), BitVec.getLsbD_sshiftRight]
    show _ = (BitVec.ofNat 32 _).getLsbD i
    rw [BitVec.getLsbD_ofNat, z_cbit]
    by_cases c : i < 8
    · have h1 : 8 * k + i < 64 := by omega
      have h2 : i < 64 := by omega
      simp [c, hi, h1, h2]
    · simp [c]
theorem zfeed_loop (v : Int64) : ∀ r tl a b fuel, r ≤ 8 → gI a 5 = nI tl → gI b 14 = nI tl → tl + r ≤ 120 → (∀ j, j < tl → gA a 7 j = gA b 52 j ∧ ∃ c, c < 256 ∧ gA a 7 j = nI c) → r < fuel → ∃ a2 b2, f_X6_take_L22 v fuel (nI r - 1) a = some a2 ∧ f_X8_feed_L36 v fuel (nI r - 1) b = some b2 ∧ gI a2 5 = nI (tl + r) ∧ gI b2 14 = nI (tl + r) ∧ (∀ j, j < tl + r → gA a2 7 j = gA b2 52 j ∧ ∃ c, c < 256 ∧ gA a2 7 j = nI c) ∧ (∀ j, j ≠ 5 → gI a2 j = gI a j) ∧ (∀ c j, c ≠ 7 → gA a2 c j = gA a c j) ∧ (∀ c j, gB a2 c j = gB a c j) ∧ (∀ j, j ≠ 14 → gI b2 j = gI b j) ∧ ∀ c j, c ≠ 52 → gA b2 c j = gA b c j := by
  intro r
  induction r with
  | zero =>
    intro tl a b fuel hr h1 h2 ht h3 hf
    obtain ⟨fu, rfl⟩ : ∃ fu, fuel = fu + 1 := ⟨fuel - 1, by omega⟩
    refine ⟨a, b, ?_, ?_, h1, h2, h3, fun _ _ => rfl, fun _ _ _ => rfl, fun _ _ => rfl, fun _ _ => rfl, fun _ _ _ => rfl⟩
    · rw [f_X6_take_L22, if_pos (by decide)]
    · rw [f_X8_feed_L36, if_pos (by decide)]
  | succ r ih =>
    intro tl a b fuel hr h1 h2 ht h3 hf
    obtain ⟨fu, rfl⟩ : ∃ fu, fuel = fu + 1 := ⟨fuel - 1, by omega⟩
    have e : nI (r + 1) - 1 = nI r := pk_sub (b := 1) (by omega)
    have e2 : nI r + (-1) = nI r - 1 := (Int32.sub_eq_add_neg _ _).symm
    have hx := z_xin (k := tl) (n := 120) (by omega) (by decide)
    obtain ⟨c, hc, c1, c2⟩ := z_byte v (k := r) (by omega)
    rw [e, f_X6_take_L22, f_X8_feed_L36, if_neg (nI_pos (by omega)), if_neg (nI_pos (by omega)), h1, h2, if_pos hx, if_pos hx, c1, c2, e2, nI_clamp (by omega), nI_1]
    have q0 : ∀ j, j < tl + 1 → gA (sI (sA a 7 (upd (gA a 7) tl (nI c))) 5 (nI (tl + 1))) 7 j = gA (sI (sA b 52 (upd (gA b 52) tl (nI c))) 14 (nI (tl + 1))) 52 j ∧ ∃ c2, c2 < 256 ∧ gA (sI (sA a 7 (upd (gA a 7) tl (nI c))) 5 (nI (tl + 1))) 7 j = nI c2 := by
      intro j hj
      rw [gA_sI, gA_sA, if_pos rfl, gA_sI, gA_sA, if_pos rfl, upd_at, upd_at]
      by_cases q : j = tl
      · rw [if_pos q, if_pos q]; exact ⟨rfl, c, hc, rfl⟩
      · rw [if_neg q, if_neg q]; exact h3 j (by omega)
    obtain ⟨a2, b2, u1, u2, u3, u4, u5, u6, u7, u8, u9, u10⟩ := ih (tl + 1) (sI (sA a 7 (upd (gA a 7) tl (nI c))) 5 (nI (tl + 1))) (sI (sA b 52 (upd (gA b 52) tl (nI c))) 14 (nI (tl + 1))) fu (by omega) (by rw [gI_sI, if_pos rfl]) (by rw [gI_sI, if_pos rfl]) (by omega) q0 (by omega)
    refine ⟨a2, b2, u1, u2, ?_, ?_, ?_, fun j hj => ?_, fun q j hq => ?_, fun q j => ?_, fun j hj => ?_, fun q j hq => ?_⟩
    · rw [u3]; congr 1; omega
    · rw [u4]; congr 1; omega
    · intro j hj; exact u5 j (by omega)
    · rw [u6 j hj, gI_sI, if_neg hj]; rfl
    · rw [u7 q j hq, gA_sI, gA_sA, if_neg hq]
    · rw [u8 q j]; rfl
    · rw [u9 j hj, gI_sI, if_neg hj]; rfl
    · rw [u10 q j hq, gA_sI, gA_sA, if_neg hq]
theorem p_feed {N : Nat} (hN : 5000 ≤ N) : xP_feed N zInv := by
  intro y1 y2 a b hI
  obtain ⟨n, kd, t, d, hb, ha, hB, hls, hlo, ⟨tl, t0, t1, t2, t3⟩, hf, hca⟩ := id hI
  unfold f_X7_feed f_X8_feed f_X6_take
  have w8 := f8_in y1 1 8
  rw [show (1 : Int32).toInt64 = 1 from rfl, show (8 : Int32).toInt64 = 8 from rfl] at w8
  rw [f7_within, w8]
  simp only [z_sbind]
  by_cases c : y1 < 1 ∨ 8 < y1
  · rw [if_pos c]; exact ⟨_, _, _, rfl, rfl, hI⟩
  rw [if_neg c]
  obtain ⟨r, r1, r2, rfl⟩ := i32_rng (v := y1) 1 8 (fun z => c (Or.inl z)) (fun z => c (Or.inr z)) (by decide) (by decide)
  simp only [if_neg z10]
  rw [if_neg (nI_pos (by omega)), t1, t2, nI_add]
  by_cases c2 : tl + r ≤ 120
  · rw [if_pos (show nI (tl + r) ≤ (120 : Int32) from nI_le (b := 120) c2 (by decide)), if_pos (show nI (tl + r) ≤ (120 : Int32) from nI_le (b := 120) c2 (by decide))]
    obtain ⟨a2, b2, u1, u2, u3, u4, u5, u6, u7, u8, u9, u10⟩ := zfeed_loop y2 r tl a b N r2 t1 t2 c2 t3 (by omega)
    rw [u1, u2]
    simp only [z_sbind, if_neg z10]
    rw [u3, u4]
    refine ⟨_, _, _, rfl, rfl, n, kd, t, d, hb, zis_keep ha (fun j hj => u6 j (by omega)), zis_keep hB (fun j hj => u9 j (by omega)), ?_, ?_, ⟨tl + r, c2, u3, u4, u5⟩, ?_, ?_⟩
    · exact zls_keep hls (fun k hk => u6 _ (by omega)) (fun k i hk => u7 _ _ (by omega)) (fun k i hk => u8 _ _) (fun k => u10 _ _ (by decide)) (fun k => u10 _ _ (by decide))
    · exact zlo_keep hlo (fun i => u7 _ _ (by decide)) (fun i => u10 _ _ (by decide))
    · rw [u6 11 (by decide), u9 15 (by decide)]; exact hf
    · exact zca_keep hca (u6 _ (by decide)) (u6 _ (by decide)) (u6 _ (by decide)) (fun i => u7 _ _ (by decide))
  · rw [if_neg (show ¬ nI (tl + r) ≤ (120 : Int32) from nI_ge (a := 120) (by omega) (by omega)), if_neg (show ¬ nI (tl + r) ≤ (120 : Int32) from nI_ge (a := 120) (by omega) (by omega))]
    exact ⟨_, _, _, rfl, rfl, hI⟩
