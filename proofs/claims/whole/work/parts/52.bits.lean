/-! bits of marks -/
theorem zs_l : ∀ k, k < 32 → ((nI k &&& 31).toBitVec.smod 32).toNat = k := by decide +kernel
theorem zI_and (a b : Nat) : nI a &&& nI b = nI (a &&& b) := by
  apply Int32.toBitVec_inj.mp
  simp [nI, BitVec.ofNat_and]
theorem zI_or (a b : Nat) : nI a ||| nI b = nI (a ||| b) := by
  apply Int32.toBitVec_inj.mp
  simp [nI, BitVec.ofNat_or]
theorem zI_xor (a b : Nat) : nI a ^^^ nI b = nI (a ^^^ b) := by
  apply Int32.toBitVec_inj.mp
  simp [nI, BitVec.ofNat_xor]
theorem zI_shr {m k : Nat} (hm : m < 2 ^ 31) (hk : k < 32) : nI m >>> (nI k &&& 31) = nI (m >>> k) := by
  rw [pk_shrN hm _ k (zs_l k hk), Nat.shiftRight_eq_div_pow]
theorem zI_shl {m k : Nat} (hk : k < 32) (h : m * 2 ^ k < 2 ^ 32) : nI m <<< (nI k &&& 31) = nI (m <<< k) := by
  rw [pk_shlN _ k (zs_l k hk) h, Nat.shiftLeft_eq]
theorem zI_and1 (m : Nat) : nI m &&& 1 = nI (m % 2) := by
  have h := zI_and m 1
  rw [Nat.and_one_is_mod] at h
  exact h
theorem znd_and (m s : Nat) : nI m &&& (nI s ^^^ (-1)) = nI (znd m s) := by
  unfold znd
  rw [← zI_xor, ← zI_and]
  apply Int32.toBitVec_inj.mp
  simp only [Int32.toBitVec_and, Int32.toBitVec_xor]
  apply BitVec.eq_of_getLsbD_eq
  intro i hi
  have h1 : ((-1 : Int32).toBitVec).getLsbD i = true := by
    have : (-1 : Int32).toBitVec = BitVec.allOnes 32 := by decide
    rw [this, BitVec.getLsbD_allOnes]; exact decide_eq_true hi
  simp only [BitVec.getLsbD_and, BitVec.getLsbD_xor, h1]
  cases (nI m).toBitVec.getLsbD i <;> cases (nI s).toBitVec.getLsbD i <;> rfl
theorem z_64 {P : Nat → Prop} (h : ∀ i, i < 64 → ∀ j, j < 64 → P (64 * i + j)) : ∀ x, x < 4096 → P x := fun x hx => by
  have := h (x / 64) (by omega) (x % 64) (by omega)
  rwa [show 64 * (x / 64) + x % 64 = x by omega] at this
theorem z_bc : ∀ x, x < 4096 → f_J6_bitCount_0f7a4 (nI x) = some (nI (zpc x)) := z_64 (by decide +kernel)
def zbs (v : Int32) : Int32 := 0 + ((v >>> ((0 : Int32) &&& 31)) &&& 1) + ((v >>> (((0 + 1 : Int32)) &&& 31)) &&& 1) + ((v >>> (((0 + 1 + 1 : Int32)) &&& 31)) &&& 1) + ((v >>> (((0 + 1 + 1 + 1 : Int32)) &&& 31)) &&& 1) + ((v >>> (((0 + 1 + 1 + 1 + 1 : Int32)) &&& 31)) &&& 1) + ((v >>> (((0 + 1 + 1 + 1 + 1 + 1 : Int32)) &&& 31)) &&& 1) + ((v >>> (((0 + 1 + 1 + 1 + 1 + 1 + 1 : Int32)) &&& 31)) &&& 1) + ((v >>> (((0 + 1 + 1 + 1 + 1 + 1 + 1 + 1 : Int32)) &&& 31)) &&& 1) + ((v >>> (((0 + 1 + 1 + 1 + 1 + 1 + 1 + 1 + 1 : Int32)) &&& 31)) &&& 1) + ((v >>> (((0 + 1 + 1 + 1 + 1 + 1 + 1 + 1 + 1 + 1 : Int32)) &&& 31)) &&& 1) + ((v >>> (((0 + 1 + 1 + 1 + 1 + 1 + 1 + 1 + 1 + 1 + 1 : Int32)) &&& 31)) &&& 1) + ((v >>> (((0 + 1 + 1 + 1 + 1 + 1 + 1 + 1 + 1 + 1 + 1 + 1 : Int32)) &&& 31)) &&& 1)
theorem z_bs : ∀ x, x < 4096 → zbs (nI x) = nI (zpc x) := z_64 (by decide +kernel)
theorem z_b8u (M : Nat) (v : Int32) : f_X8_bits (M + 13) v = some (zbs v) := by
  unfold f_X8_bits
  rw [f_X8_bits_L4, if_neg (by decide)]
  rw [f_X8_bits_L4, if_neg (by decide)]
  rw [f_X8_bits_L4, if_neg (by decide)]
  rw [f_X8_bits_L4, if_neg (by decide)]
  rw [f_X8_bits_L4, if_neg (by decide)]
  rw [f_X8_bits_L4, if_neg (by decide)]
  rw [f_X8_bits_L4, if_neg (by decide)]
  rw [f_X8_bits_L4, if_neg (by decide)]
  rw [f_X8_bits_L4, if_neg (by decide)]
  rw [f_X8_bits_L4, if_neg (by decide)]
  rw [f_X8_bits_L4, if_neg (by decide)]
  rw [f_X8_bits_L4, if_neg (by decide)]
  rw [f_X8_bits_L4, if_pos (by decide)]
  rfl
theorem z_b8 {N x : Nat} (hN : 13 ≤ N) (hx : x < 4096) : f_X8_bits N (nI x) = some (nI (zpc x)) := by
  obtain ⟨M, rfl⟩ : ∃ M, N = M + 13 := ⟨N - 13, by omega⟩
  rw [z_b8u, z_bs x hx]
theorem znd_lt {m s k : Nat} (h : m < 2 ^ k) : znd m s < 2 ^ k := Nat.xor_lt_two_pow h (Nat.lt_of_le_of_lt Nat.and_le_left h)
