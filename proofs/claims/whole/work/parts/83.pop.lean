/-! how many bits of a long -/
def znb : List Nat → Nat
  | [] => 0
  | l :: ls => 256 * znb ls + l
def zrp (c : Nat) : Nat → Nat
  | 0 => 0
  | n + 1 => 256 * zrp c n + c
theorem z_and8 {h l M m : Nat} (hl : l < 256) (hm : m < 256) : (256 * h + l) &&& (256 * M + m) = 256 * (h &&& M) + (l &&& m) := by
  apply Nat.eq_of_testBit_eq
  intro j
  have hlm : l &&& m < 2 ^ 8 := Nat.lt_of_le_of_lt Nat.and_le_left hl
  rw [Nat.testBit_and, show (256 : Nat) = 2 ^ 8 from rfl, Nat.testBit_two_pow_mul_add _ (show l < 2 ^ 8 from hl), Nat.testBit_two_pow_mul_add _ (show m < 2 ^ 8 from hm), Nat.testBit_two_pow_mul_add _ hlm]
  split
  · rw [Nat.testBit_and]
  · rw [Nat.testBit_and]
def zqA (M x : Nat) : Nat := x - ((x / 2) &&& M)
def zqB (M x : Nat) : Nat := (x &&& M) + ((x / 4) &&& M)
def zqC (M x : Nat) : Nat := (x + x / 16) &&& M
theorem zq_a1 : ∀ r, r < 2 → ∀ l, l < 256 → (128 * r + l / 2) &&& 85 = (l / 2) &&& 85 := by decide +kernel
theorem zq_b1 : ∀ r, r < 4 → ∀ l, l < 256 → (64 * r + l / 4) &&& 51 = (l / 4) &&& 51 := by decide +kernel
theorem zq_s1 : ∀ l, l < 256 → zqA 85 l < 256 ∧ zqB 51 (zqA 85 l) % 16 ≤ 4 ∧ zqB 51 (zqA 85 l) / 16 ≤ 4 ∧ zqC 15 (zqB 51 (zqA 85 l)) = zfl (fun j => l.testBit j) 0 8 := by decide +kernel
theorem zqA_s {h l M : Nat} (hl : l < 256) : zqA (256 * M + 85) (256 * h + l) = 256 * zqA M h + zqA 85 l := by
  unfold zqA
  have e : (256 * h + l) / 2 = 256 * (h / 2) + (128 * (h % 2) + l / 2) := by omega
  rw [e, z_and8 (by omega) (by decide), zq_a1 _ (by omega) _ hl]
  have h1 : (h / 2) &&& M ≤ h / 2 := Nat.and_le_left
  have h2 : (l / 2) &&& 85 ≤ l / 2 := Nat.and_le_left
  omega
theorem zqB_s {h l M : Nat} (hl : l < 256) : zqB (256 * M + 51) (256 * h + l) = 256 * zqB M h + zqB 51 l := by
  unfold zqB
  have e : (256 * h + l) / 4 = 256 * (h / 4) + (64 * (h % 4) + l / 4) := by omega
  rw [e, z_and8 hl (by decide), z_and8 (by omega) (by decide), zq_b1 _ (by omega) _ hl]
  omega
theorem zqC_s {h l M : Nat} (hl : l % 16 ≤ 4) (hl2 : l / 16 ≤ 4) (hh : h % 16 ≤ 4) : zqC (256 * M + 15) (256 * h + l) = 256 * zqC M h + zqC 15 l := by
  unfold zqC
  have e : 256 * h + l + (256 * h + l) / 16 = 256 * (h + h / 16) + (l + l / 16 + 16 * (h % 16)) := by omega
  rw [e, z_and8 (by omega) (by decide)]
  have e2 : (l + l / 16 + 16 * (h % 16)) &&& 15 = (l + l / 16) &&& 15 := by
    rw [show (15 : Nat) = 2 ^ 4 - 1 from rfl, Nat.and_two_pow_sub_one_eq_mod, Nat.and_two_pow_sub_one_eq_mod]
    omega
  rw [e2]
theorem zqA_l : ∀ bs : List Nat, (∀ b ∈ bs, b < 256) → zqA (zrp 85 bs.length) (znb bs) = znb (bs.map (zqA 85))
  | [], _ => rfl
  | b :: bs, h => by
    rw [List.length_cons, zrp, znb, zqA_s (h b List.mem_cons_self), zqA_l bs (fun x hx => h x (List.mem_cons_of_mem _ hx))]
    rfl
theorem zqB_l : ∀ bs : List Nat, (∀ b ∈ bs, b < 256) → zqB (zrp 51 bs.length) (znb bs) = znb (bs.map (zqB 51))
  | [], _ => rfl
  | b :: bs, h => by
    rw [List.length_cons, zrp, znb, zqB_s (h b List.mem_cons_self), zqB_l bs (fun x hx => h x (List.mem_cons_of_mem _ hx))]
    rfl
theorem zqC_l : ∀ bs : List Nat, (∀ b ∈ bs, b % 16 ≤ 4 ∧ b / 16 ≤ 4) → zqC (zrp 15 bs.length) (znb bs) = znb (bs.map (zqC 15))
  | [], _ => rfl
  | b :: bs, h => by
    have hb := h b List.mem_cons_self
    have hn : znb bs % 16 ≤ 4 := by
      cases bs with
      | nil => decide
      | cons c cs =>
        have hc := h c (List.mem_cons_of_mem _ List.mem_cons_self)
        show (256 * znb cs + c) % 16 ≤ 4
        omega
    rw [List.length_cons, zrp, znb, zqC_s hb.1 hb.2 hn, zqC_l bs (fun x hx => h x (List.mem_cons_of_mem _ hx))]
    rfl
theorem zfl_eq {p q : Nat → Bool} : ∀ r i j, (∀ t, t < r → p (i + t) = q (j + t)) → zfl p i r = zfl q j r
  | 0, _, _, _ => rfl
  | r + 1, i, j, h => by
    rw [zfl_s, zfl_s, zfl_eq r (i + 1) (j + 1) (fun t ht => by
      have := h (t + 1) (by omega)
      rwa [show i + (t + 1) = i + 1 + t by omega, show j + (t + 1) = j + 1 + t by omega] at this)]
    have := h 0 (by omega)
    rw [Nat.add_zero, Nat.add_zero] at this
    rw [this]
theorem zfl_add (p : Nat → Bool) : ∀ r i s, zfl p i (r + s) = zfl p i r + zfl p (i + r) s
  | 0, i, s => by rw [Nat.zero_add, zfl_0, Nat.zero_add, Nat.add_zero]
  | r + 1, i, s => by
    rw [show r + 1 + s = (r + s) + 1 by omega, zfl_s, zfl_s, zfl_add p r (i + 1) s, show i + 1 + r = i + (r + 1) by omega]
    omega
def zT (x : Int64) : Nat := x.toBitVec.toNat
theorem zT_lt (x : Int64) : zT x < 2 ^ 64 := x.toBitVec.isLt
theorem zT_and (x y : Int64) : zT (x &&& y) = zT x &&& zT y := by
  unfold zT
  rw [Int64.toBitVec_and, BitVec.toNat_and]
theorem zT_add {x y : Int64} (h : zT x + zT y < 2 ^ 64) : zT (x + y) = zT x + zT y := by
  unfold zT at *
  rw [Int64.toBitVec_add, BitVec.toNat_add, Nat.mod_eq_of_lt h]
theorem zT_sub {x y : Int64} (h : zT y ≤ zT x) : zT (x - y) = zT x - zT y := by
  unfold zT at *
  rw [Int64.toBitVec_sub, BitVec.toNat_sub_of_le h]
theorem zT_shr (x : Int64) {k : Nat} (hk : k < 64) : zT (xlushr x (nI k)) = zT x / 2 ^ k := by
  unfold zT xlushr
  rw [wb_cu k hk, z_ushr (j := k) hk (UInt64.toNat_ofNat_of_lt' (show k < UInt64.size from Nat.lt_of_lt_of_le hk (by decide))), BitVec.toNat_ushiftRight, Nat.shiftRight_eq_div_pow]
theorem z_127 : ∀ i, i < 32 → (127 : Int32).toBitVec.getLsbD i = decide (i < 7) := by decide +kernel
theorem zT_low (x : Int64) : (Int64.toInt32 x) &&& 127 = nI (zT x % 128) := by
  apply Int32.toBitVec_inj.mp
  rw [Int32.toBitVec_and, Int64.toBitVec_toInt32]
  apply BitVec.eq_of_getLsbD_eq
  intro i hi
  rw [BitVec.getLsbD_and, z_127 i hi, BitVec.getLsbD_signExtend, if_pos (show i < 64 by omega)]
  show _ = (BitVec.ofNat 32 _).getLsbD i
  rw [BitVec.getLsbD_ofNat, show (128 : Nat) = 2 ^ 7 from rfl, Nat.testBit_mod_two_pow]
  show _ = (decide (i < 32) && (decide (i < 7) && x.toBitVec.getLsbD i))
  cases x.toBitVec.getLsbD i <;> cases decide (i < 7) <;> cases decide (i < 32) <;> simp_all
def zp64 (x : Int64) : Nat := zfl (fun j => zbit x j) 0 64
theorem znb8 {x : Nat} (h : x < 2 ^ 64) : x = znb [x % 256, x / 2 ^ 8 % 256, x / 2 ^ 16 % 256, x / 2 ^ 24 % 256, x / 2 ^ 32 % 256, x / 2 ^ 40 % 256, x / 2 ^ 48 % 256, x / 2 ^ 56 % 256] := by
  simp only [znb]
  omega
theorem zp_byte (x : Int64) {i : Nat} : zfl (fun j => zbit x j) (8 * i) 8 = zfl (fun j => (zT x / 2 ^ (8 * i) % 256).testBit j) 0 8 := by
  apply zfl_eq
  intro t ht
  show zbit x (8 * i + t) = (zT x / 2 ^ (8 * i) % 256).testBit (0 + t)
  rw [Nat.zero_add, show (256 : Nat) = 2 ^ 8 from rfl, Nat.testBit_mod_two_pow, ← Nat.shiftRight_eq_div_pow, Nat.testBit_shiftRight, decide_eq_true ht, Bool.true_and]
  rfl
theorem zp_sum (x : Int64) : zp64 x = zfl (fun j => (zT x / 2 ^ (8 * 0) % 256).testBit j) 0 8 + (zfl (fun j => (zT x / 2 ^ (8 * 1) % 256).testBit j) 0 8 + (zfl (fun j => (zT x / 2 ^ (8 * 2) % 256).testBit j) 0 8 + (zfl (fun j => (zT x / 2 ^ (8 * 3) % 256).testBit j) 0 8 + (zfl (fun j => (zT x / 2 ^ (8 * 4) % 256).testBit j) 0 8 + (zfl (fun j => (zT x / 2 ^ (8 * 5) % 256).testBit j) 0 8 + (zfl (fun j => (zT x / 2 ^ (8 * 6) % 256).testBit j) 0 8 + zfl (fun j => (zT x / 2 ^ (8 * 7) % 256).testBit j) 0 8)))))) := by
  rw [← zp_byte, ← zp_byte, ← zp_byte, ← zp_byte, ← zp_byte, ← zp_byte, ← zp_byte, ← zp_byte]
  unfold zp64
  rw [show (64 : Nat) = 8 + (8 + (8 + (8 + (8 + (8 + (8 + 8)))))) from rfl, zfl_add, zfl_add, zfl_add, zfl_add, zfl_add, zfl_add, zfl_add]
