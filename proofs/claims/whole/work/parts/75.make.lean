/-! make -/
theorem z_agree {a : xT} {n m s : Nat} (h : gI a 0 = nI n) (hn : n ≤ 12) : f_X1_agreement (nI m) (nI s) a = some (((nI m ^^^ nI s) ^^^ (-1)) &&& nI (2 ^ n - 1)) := by
  unfold f_X1_agreement
  rw [f1_all h hn]
  rfl
def zag (n m s : Nat) : Nat := znd (2 ^ n - 1) (m ^^^ s)
theorem z_agr {n m s : Nat} : ((nI m ^^^ nI s) ^^^ (-1)) &&& nI (2 ^ n - 1) = nI (zag n m s) := by
  rw [zI_xor, Int32.and_comm, znd_and]
  rfl
theorem f1_agree {a : xT} {n m s : Nat} (h : gI a 0 = nI n) (hn : n ≤ 12) : f_X1_agreement (nI m) (nI s) a = some (nI (zag n m s)) := by
  rw [z_agree h hn, z_agr]
theorem zag_lt (n m s : Nat) : zag n m s < 2 ^ n := znd_lt (by have := Nat.two_pow_pos n; omega)
theorem zag_bit (n m s j : Nat) : (zag n m s).testBit j = (decide (j < n) && (m.testBit j == s.testBit j)) := by
  unfold zag
  rw [znd_bit, Nat.testBit_two_pow_sub_one, Nat.testBit_xor]
  cases m.testBit j <;> cases s.testBit j <;> simp
/-- a ring can make s just where at every place some one agrees -/
theorem z_ring {n x y z s : Nat} (hx : x < 2 ^ n) (hs : s < 2 ^ n) : ((zag n x s ||| zag n y s) ||| zag n z s = 2 ^ n - 1) ↔ (znd ((x &&& y) &&& z) s = 0 ∧ znd s ((x ||| y) ||| z) = 0) := by
  constructor
  · intro h
    have hj : ∀ j, j < n → (x.testBit j == s.testBit j || y.testBit j == s.testBit j || z.testBit j == s.testBit j) = true := fun j hj => by
      have e := congrArg (fun v => v.testBit j) h
      simp only [Nat.testBit_or, zag_bit, Nat.testBit_two_pow_sub_one] at e
      simpa [hj] using e
    constructor
    · apply Nat.eq_of_testBit_eq
      intro j
      rw [znd_bit, Nat.zero_testBit, Nat.testBit_and, Nat.testBit_and]
      by_cases c : j < n
      · have := hj j c
        revert this
        cases x.testBit j <;> cases y.testBit j <;> cases z.testBit j <;> cases s.testBit j <;> decide
      · have : x.testBit j = false := Nat.testBit_lt_two_pow (Nat.lt_of_lt_of_le hx (Nat.pow_le_pow_right (by decide) (by omega)))
        rw [this]; simp
    · apply Nat.eq_of_testBit_eq
      intro j
      rw [znd_bit, Nat.zero_testBit, Nat.testBit_or, Nat.testBit_or]
      by_cases c : j < n
      · have := hj j c
        revert this
        cases x.testBit j <;> cases y.testBit j <;> cases z.testBit j <;> cases s.testBit j <;> decide
      · have : s.testBit j = false := Nat.testBit_lt_two_pow (Nat.lt_of_lt_of_le hs (Nat.pow_le_pow_right (by decide) (by omega)))
        rw [this]; simp
  · rintro ⟨h1, h2⟩
    apply Nat.eq_of_testBit_eq
    intro j
    rw [Nat.testBit_or, Nat.testBit_or, zag_bit, zag_bit, zag_bit, Nat.testBit_two_pow_sub_one]
    have e1 := congrArg (fun v => v.testBit j) h1
    have e2 := congrArg (fun v => v.testBit j) h2
    simp only [znd_bit, Nat.zero_testBit, Nat.testBit_and, Nat.testBit_or] at e1 e2
    by_cases c : j < n
    · revert e1 e2
      cases x.testBit j <;> cases y.testBit j <;> cases z.testBit j <;> cases s.testBit j <;> simp [c]
    · simp [c]
def zcm (c al s : Nat) : Bool := decide (znd c s = 0) && decide (znd s al = 0)
theorem f8_canMake {c al s : Nat} (hc : c < 4096) (hs : s < 4096) : f_X8_canMake (nI c) (nI al) (nI s) = some (bI (zcm c al s)) := by
  have h1 := znd_12 (s := s) hc
  have h2 := znd_12 (s := al) hs
  unfold f_X8_canMake zcm
  rw [znd_and, znd_and]
  by_cases e1 : znd c s = 0
  · rw [if_pos ((nI_eq0 (by omega)).mpr e1)]
    by_cases e2 : znd s al = 0
    · rw [if_pos ((nI_eq0 (by omega)).mpr e2)]; simp [e1, e2, bI]
    · rw [if_neg (fun z => e2 ((nI_eq0 (by omega)).mp z))]; simp [e1, e2, bI]
  · rw [if_neg (fun z => e1 ((nI_eq0 (by omega)).mp z))]; simp [e1, bI]
