/-! the shape of a mark -/
def zsc (n m : Nat) : Nat := zpc (m &&& zrev n m)
def zsa (n m : Nat) : Nat := zpc (znd m (zrev n m))
theorem zfl_two (p q : Nat → Bool) : ∀ r i, zfl (fun j => p j && q j) i r + zfl (fun j => p j && !q j) i r = zfl p i r
  | 0, _ => rfl
  | r + 1, i => by
    have h := zfl_two p q r (i + 1)
    rw [zfl_s, zfl_s, zfl_s]
    cases p i <;> cases q i <;> simp <;> omega
theorem zfl_three (p q : Nat → Bool) : ∀ r i, zfl (fun j => p j && q j) i r + zfl (fun j => p j && !q j) i r + zfl (fun j => q j && !p j) i r ≤ r
  | 0, _ => Nat.le_refl _
  | r + 1, i => by
    have h := zfl_three p q r (i + 1)
    rw [zfl_s, zfl_s, zfl_s]
    cases p i <;> cases q i <;> simp <;> omega
theorem zfl_zero {p : Nat → Bool} : ∀ r i, zfl p i r = 0 → ∀ t, i ≤ t → t < i + r → p t = false
  | 0, i, _, t, h1, h2 => by omega
  | r + 1, i, h, t, h1, h2 => by
    rw [zfl_s] at h
    by_cases e : t = i
    · subst e
      cases q : p t with
      | false => rfl
      | true => rw [q] at h; simp at h
    · exact zfl_zero r (i + 1) (by omega) t (by omega) (by omega)
theorem zsa_rev {n m : Nat} (hn : n ≤ 12) (hm : m < 2 ^ n) : zpc (znd (zrev n m) m) = zsa n m := by
  have h := zrev_nd n m (zrev n m)
  rw [zrev_rev hm] at h
  rw [h, zpc_rev hn (znd_lt hm)]
  rfl
theorem z_even2 : ∀ n, n < 7 → ∀ i, i < 64 → ∀ j, j < 64 → 64 * i + j < 2 ^ (2 * n) → zpc ((64 * i + j) &&& zrev (2 * n) (64 * i + j)) % 2 = 0 := by decide +kernel
theorem z_shp {n m : Nat} (hn : n ≤ 12) (hm : m < 2 ^ n) : zsc n m + zsa n m = zpc m ∧ zsc n m + 2 * zsa n m ≤ n ∧ (zrev n m = m ↔ zsa n m = 0) ∧ zsc n m % 2 ≤ n % 2 := by
  have hp := z_pow n (by omega)
  have hr := zrev_lt n m
  have f1 : zsc n m = zfl (fun j => m.testBit j && (zrev n m).testBit j) 0 n := by
    unfold zsc
    rw [zpc_fl hn (Nat.lt_of_le_of_lt Nat.and_le_left hm)]
    exact zfl_ext _ _ (fun j _ _ => Nat.testBit_and _ _ _)
  have f2 : zsa n m = zfl (fun j => m.testBit j && !(zrev n m).testBit j) 0 n := by
    unfold zsa
    rw [zpc_fl hn (znd_lt hm)]
    exact zfl_ext _ _ (fun j _ _ => znd_bit _ _ _)
  have f3 : zsa n m = zfl (fun j => (zrev n m).testBit j && !m.testBit j) 0 n := by
    rw [← zsa_rev hn hm, zpc_fl hn (znd_lt hr)]
    exact zfl_ext _ _ (fun j _ _ => znd_bit _ _ _)
  refine ⟨?_, ?_, ?_, ?_⟩
  · rw [f1, f2, zpc_fl hn hm]
    exact zfl_two _ _ n 0
  · have := zfl_three (fun j => m.testBit j) (fun j => (zrev n m).testBit j) n 0
    rw [← f1, ← f2, ← f3] at this
    omega
  · constructor
    · intro e
      unfold zsa
      rw [e, znd_self, zpc_0]
    · intro e
      apply Nat.eq_of_testBit_eq
      intro j
      by_cases c : j < n
      · have g1 := zfl_zero n 0 (f2.symm.trans e) j (by omega) (by omega)
        have g2 := zfl_zero n 0 (f3.symm.trans e) j (by omega) (by omega)
        revert g1 g2
        cases m.testBit j <;> cases (zrev n m).testBit j <;> simp
      · rw [Nat.testBit_lt_two_pow (Nat.lt_of_lt_of_le hr (Nat.pow_le_pow_right (by decide) (by omega))), Nat.testBit_lt_two_pow (Nat.lt_of_lt_of_le hm (Nat.pow_le_pow_right (by decide) (by omega)))]
  · by_cases c : n % 2 = 0
    · have e : n = 2 * (n / 2) := by omega
      have h := z_64 (P := fun x => x < 2 ^ (2 * (n / 2)) → zpc (x &&& zrev (2 * (n / 2)) x) % 2 = 0) (z_even2 (n / 2) (by omega)) m (by omega)
      rw [← e] at h
      have h2 := h hm
      unfold zsc
      omega
    · omega
theorem f8_filled {b : xT} {n kd t d m N : Nat} (h : zis b n kd t d) (hb : zbd n kd t d) (hm : m < 2 ^ n) (hN : 20 ≤ N) : f_X8_filledBy N (nI m) b = some (nI (zG n kd t d (zsc n m) (zsa n m))) := by
  obtain ⟨b1, hn, b3, ht, hd⟩ := id hb
  have hp := z_pow n (by omega)
  obtain ⟨s1, s2, s3, -⟩ := z_shp hn hm
  unfold f_X8_filledBy zG
  rw [z_b8 (by omega) (show m < 4096 by omega), z_sbind, h.1, h.2.1, h.2.2.1, h.2.2.2, ← s1]
  by_cases c0 : kd = 0
  · subst c0
    rw [if_pos (show nI 0 = (0 : Int32) from rfl), if_pos rfl, f8_upTo (by omega) (by omega) hN]; rfl
  · rw [if_neg (fun z => c0 ((nI_eq0 (by omega)).mp z)), if_neg c0, f8_upTo (by omega) (by omega) hN, z_sbind, pk_sub (by omega)]
    by_cases c1 : kd = 1
    · subst c1
      rw [if_neg (show ¬ ((2 : Int32) ≤ nI 1) by decide), show (0 : Int32) = nI 0 from rfl, f8_upTo (by omega) (by omega) hN, z_sbind, if_pos (show nI 1 < (3 : Int32) by decide), if_neg (by decide), pk_mul]
      rfl
    · rw [if_pos (show ((2 : Int32) ≤ nI kd) from nI_le (a := 2) (by omega) (by omega)), f8_upTo (by omega) (by omega) hN, z_sbind, pk_mul]
      by_cases c3 : kd = 3
      · subst c3
        rw [if_neg (show ¬ nI 3 < (3 : Int32) by decide), if_pos rfl, f8_trn h.1 hn (by omega) hN, z_sbind]
        have hr := zrev_lt n m
        by_cases c4 : zrev n m = m
        · have e0 := s3.mp c4
          rw [if_pos (by rw [c4]), e0, z_bw00 t (by omega) d (by omega) _ (by omega) _ (by omega), Nat.add_zero, show n - zsc n m - 2 * 0 = n - zsc n m by omega]
          congr 2; omega
        · have hl := f8_b38 (N := N) h.2.2.1 h.2.2.2 ht hd (show zsc n m < 13 by omega) (show zsa n m < 12 by omega) (show n - zsc n m - 2 * zsa n m < 13 by omega) hN (zsa n m + 1) 0 0 N (by omega) (by omega)
          rw [show nI 0 = (0 : Int32) from rfl, Nat.zero_add] at hl
          have hbw := z_bw (c := zsc n m) (al := zsa n m) (em := n - zsc n m - 2 * zsa n m) ht hd (by omega)
          have hle := hbw.2
          rw [show n - zsc n m - 2 * zsa n m + zsa n m = n - (zsc n m + zsa n m) by omega] at hle
          have e1 : (nI n - nI (zsc n m)) - 2 * nI (zsa n m) = nI (n - zsc n m - 2 * zsa n m) := by
            rw [pk_sub (by omega), show (2 : Int32) = nI 2 from rfl, pk_mul, pk_sub (by omega)]
          rw [if_neg (fun z => c4 ((nI_eq (by omega) (by omega)).mp z))]
          unfold f_X8_filledByBoth
          rw [f8_trn h.1 hn (by omega) hN, z_sbind, znd_and, z_b8 (by omega) (znd_12 (by omega)), z_sbind, z_b8 (by omega) (show m < 4096 by omega), z_sbind, h.1, show zpc (znd m (zrev n m)) = zsa n m from rfl, ← s1, pk_sub (show zsa n m ≤ zsc n m + zsa n m by omega), show zsc n m + zsa n m - zsa n m = zsc n m by omega, e1, hl, z_sbind, z_sbind]
          rw [show zF2 t d (zsc n m) (zsa n m) (n - zsc n m - 2 * zsa n m) 0 (zsa n m + 1) = zFB t d (zsc n m) (zsa n m) (n - zsc n m - 2 * zsa n m) from rfl, ← hbw.1, show (2 : Int32) = nI 2 from rfl, pk_mul, pk_sub (by omega)]
      · rw [if_pos (show nI kd < (3 : Int32) from nI_lt (b := 3) (by omega) (by decide)), if_neg c3]
        rw [show zex kd d = d by unfold zex; rw [if_neg (by omega)]]
theorem f1_sightsOf {a : xT} {n kd t d m N : Nat} (h : zis a n kd t d) (hb : zbd n kd t d) (hm : m < 2 ^ n) (hN : 20 ≤ N) : f_X1_sightsOf N (nI m) a = some (nI (zG n kd t d (zsc n m) (zsa n m))) := by
  have hn := hb.2.1
  have hp := z_pow n (by omega)
  have hr := zrev_lt n m
  obtain ⟨s1, s2, -⟩ := z_shp hn hm
  unfold f_X1_sightsOf
  rw [f1_rev h.1 hn (by omega) hN, z_sbind, zI_and, znd_and, z_bc _ (Nat.lt_of_le_of_lt Nat.and_le_left (show m < 4096 by omega)), z_sbind, z_bc _ (znd_12 (by omega)), z_sbind, f1_sights (c := zpc (m &&& zrev n m)) (al := zpc (znd m (zrev n m))) h hb s2 hN]
  rfl
theorem p_fills {N : Nat} (hN : 20 ≤ N) : xP_fills N zInv := by
  intro y1 a b hI
  obtain ⟨n, kd, t, d, hb, ha, hB, -⟩ := id hI
  have hn := hb.2.1
  unfold f_X7_fills f_X8_fills
  rw [f1_isSet y1 ha.1 hn, f8_isMark y1 hB.1 hn]
  simp only [z_sbind]
  by_cases c : y1 < 0 ∨ nI (2 ^ n - 1) < y1
  · rw [if_pos c]; exact ⟨_, rfl, rfl, hI⟩
  rw [if_neg c]
  obtain ⟨m, hm, rfl⟩ := z_setOf hn c
  simp only [if_neg z10]
  rw [f1_sightsOf ha hb hm hN, f8_filled hB hb hm hN]
  exact ⟨_, rfl, rfl, hI⟩
