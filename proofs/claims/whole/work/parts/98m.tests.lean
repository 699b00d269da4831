/-! what a test says of a mark -/
def zsl (m : Nat) : Nat → Nat → Nat → Nat
  | 0, _, acc => acc
  | r + 1, k, acc => zsl m r (k + 1) (acc + (m >>> k) % 2 * (k + 1))
theorem zsl_cut {m : Nat} : ∀ r k acc, m < 2 ^ k → zsl m r k acc = acc
  | 0, k, acc, h => rfl
  | r + 1, k, acc, h => by
    rw [zsl, zsl_cut r (k + 1) _ (Nat.lt_of_lt_of_le h (Nat.pow_le_pow_right (by decide) (by omega))), Nat.shiftRight_eq_div_pow, Nat.div_eq_of_lt h]
    simp
theorem zsl_add {m s : Nat} : ∀ r k acc, zsl m (r + s) k acc = zsl m s (k + r) (zsl m r k acc)
  | 0, k, acc => by rw [Nat.zero_add]; rfl
  | r + 1, k, acc => by
    rw [show r + 1 + s = (r + s) + 1 by omega, zsl, zsl, zsl_add r, show k + 1 + r = k + (r + 1) by omega]
theorem zsl_n {m n : Nat} (hn : n ≤ 12) (h : m < 2 ^ n) : zsl m 12 0 0 = zsl m n 0 0 := by
  rw [show 12 = n + (12 - n) by omega, zsl_add, zsl_cut _ _ _ (by rw [Nat.zero_add]; exact h)]
theorem zsl_le {m : Nat} : ∀ r k acc, zsl m r k acc ≤ acc + r * (k + r)
  | 0, k, acc => by rw [zsl]; omega
  | r + 1, k, acc => by
    have := zsl_le (m := m) r (k + 1) (acc + (m >>> k) % 2 * (k + 1))
    rw [zsl]
    have h2 : (m >>> k) % 2 * (k + 1) ≤ k + 1 := by
      have : (m >>> k) % 2 < 2 := Nat.mod_lt _ (by decide)
      rcases (show (m >>> k) % 2 = 0 ∨ (m >>> k) % 2 = 1 by omega) with z | z <;> rw [z] <;> omega
    have h3 : (r + 1) * (k + (r + 1)) = r * (k + 1 + r) + (k + (r + 1)) := by rw [Nat.succ_mul, show k + (r + 1) = k + 1 + r by omega]
    omega
theorem z_term {m k acc : Nat} (hm : m < 4096) (hk : k < 12) : nI acc + (((nI m >>> (nI k &&& 31)) &&& 1) * (nI k + 1)) = nI (acc + (m >>> k) % 2 * (k + 1)) := by
  rw [zI_shr (by omega) (by omega), zI_and1, nI_1, pk_mul, nI_add]
theorem f5_smo_loop {m : Nat} (hm : m < 4096) : ∀ r k acc fuel, k + r = 12 → r < fuel → f_X5_sumOf_L4 (nI m) fuel (nI acc) (nI k) = some (nI (zsl m r k acc)) := by
  intro r
  induction r with
  | zero =>
    intro k acc fuel hk hf
    obtain ⟨fu, rfl⟩ : ∃ fu, fuel = fu + 1 := ⟨fuel - 1, by omega⟩
    rw [f_X5_sumOf_L4, if_pos (show (12 : Int32) ≤ nI k from nI_le (a := 12) (by omega) (by omega))]
    rfl
  | succ r ih =>
    intro k acc fuel hk hf
    obtain ⟨fu, rfl⟩ : ∃ fu, fuel = fu + 1 := ⟨fuel - 1, by omega⟩
    rw [f_X5_sumOf_L4, if_neg (show ¬ (12 : Int32) ≤ nI k from nI_ge (b := 12) (by omega) (by decide)), z_sbind, z_term hm (by omega), nI_1]
    exact ih (k + 1) _ fu (by omega) (by omega)
theorem f5_smo {m N : Nat} (hm : m < 4096) (hN : 20 ≤ N) : f_X5_sumOf N (nI m) = some (nI (zsl m 12 0 0)) := by
  unfold f_X5_sumOf
  have := f5_smo_loop hm 12 0 0 N (by omega) (by omega)
  rw [show (0 : Int32) = nI 0 from rfl, this]
  rfl
theorem f8_smo_loop {b : xT} {n m : Nat} (h : gI b 0 = nI n) (hn : n ≤ 12) (hm : m < 4096) : ∀ r k acc fuel, k + r = n → r < fuel → f_X8_sumOf_L4 (nI m) b fuel (nI acc) (nI k) = some (nI (zsl m r k acc)) := by
  intro r
  induction r with
  | zero =>
    intro k acc fuel hk hf
    obtain ⟨fu, rfl⟩ : ∃ fu, fuel = fu + 1 := ⟨fuel - 1, by omega⟩
    rw [f_X8_sumOf_L4, h, if_pos (nI_le (by omega) (by omega))]
    rfl
  | succ r ih =>
    intro k acc fuel hk hf
    obtain ⟨fu, rfl⟩ : ∃ fu, fuel = fu + 1 := ⟨fuel - 1, by omega⟩
    rw [f_X8_sumOf_L4, h, if_neg (nI_ge (by omega) (by omega)), z_sbind, z_term hm (by omega), nI_1]
    exact ih (k + 1) _ fu (by omega) (by omega)
theorem f8_smo {b : xT} {n m N : Nat} (h : gI b 0 = nI n) (hn : n ≤ 12) (hm : m < 2 ^ n) (hN : 20 ≤ N) : f_X8_sumOf N (nI m) b = some (nI (zsl m 12 0 0)) := by
  have hp := z_pow n (by omega)
  unfold f_X8_sumOf
  have := f8_smo_loop h hn (m := m) (by omega) n 0 0 N (by omega) (by omega)
  rw [show (0 : Int32) = nI 0 from rfl, this, zsl_n hn hm]
  rfl
def zlf (n : Nat) (ls : Nat → List Nat) (m k x : Nat) : Bool :=
  if k = 3 then decide (zpc m = x) else if k = 4 then decide (zsl m 12 0 0 % (x % 100) = x / 100) else if k = 5 then decide ((m >>> x) % 2 = 1) else if k = 6 then decide (zpc (znd m (m <<< 1)) = x) else if k = 7 then decide (zrev n m = m) else decide (m ∈ ls x)
theorem zlf_7 (n : Nat) (ls : Nat → List Nat) (m : Nat) : zok7 (zlf n ls m) := fun x => rfl
theorem z_ib {p q : Prop} [Decidable p] [Decidable q] (h : p ↔ q) : (if p then some (1 : Int32) else some 0) = some (bI (decide q)) := by
  by_cases c : p
  · rw [if_pos c, decide_eq_true (h.mp c)]; rfl
  · rw [if_neg c, decide_eq_false (fun z => c (h.mpr z))]; rfl
theorem z_run1 {m : Nat} (hm : m < 4096) : nI m &&& ((nI m <<< ((1 : Int32) &&& 31)) ^^^ (-1 : Int32)) = nI (znd m (m <<< 1)) := by
  rw [show nI m <<< ((1 : Int32) &&& 31) = nI (m <<< 1) from zI_shl (k := 1) (by decide) (by omega), znd_and]
theorem f8_isSo {b : xT} {n m N k x : Nat} {ls : Nat → List Nat} {v2 : Int32} (h : gI b 0 = nI n) (hn : n ≤ 12) (hls : ∀ j, j < 6 → zlw n (ls j) ∧ zlB b j (ls j)) (hm : m < 2 ^ n) (hv : zvd (k, x)) (hk : 3 ≤ k) (hx : k = 7 ∨ v2 = nI x) (hN : 200 ≤ N) : f_X8_isSo N (nI k) v2 (nI m) b = some (bI (zlf n ls m k x)) := by
  have hp := z_pow n (by omega)
  have hpc := zpc_le m
  unfold f_X8_isSo zlf
  rcases hv with z | ⟨z1, z2⟩ | ⟨z1, z2, z3⟩ | ⟨z1, z2⟩ | ⟨z1, z2⟩ | z1 | ⟨z1, z2⟩
  · change k < 3 at z; omega
  all_goals (dsimp only at z1; subst z1)
  · have hx' : v2 = nI x := hx.resolve_left (by decide)
    subst hx'
    dsimp only at z2
    rw [if_pos (show nI 3 = 3 from rfl), if_pos rfl, z_b8 (by omega) (by omega), z_sbind]
    exact z_ib (nI_eq (by omega) (by omega))
  · have hx' : v2 = nI x := hx.resolve_left (by decide)
    subst hx'
    dsimp only at z2 z3
    have hs := zsl_le (m := m) 12 0 0
    rw [if_neg (show ¬ nI 4 = 3 by decide), if_pos (show nI 4 = 4 from rfl), if_neg (by decide), if_pos rfl, f8_smo h hn hm (by omega), z_sbind]
    have e1 : nI x - nI x / 100 * 100 = nI (x % 100) := pk_rem (d := 100) (by omega) (by decide) (by decide)
    have e2 : nI x / 100 = nI (x / 100) := pk_div (d := 100) (by omega) (by decide) (by decide)
    have hmod : x % 100 < 100 := Nat.mod_lt _ (by decide)
    rw [e1, e2, if_pos (fun z => by rw [nI_eq0 (by omega)] at z; omega), pk_rem (by omega) (by omega) (by omega)]
    have := Nat.mod_lt (zsl m 12 0 0) (show x % 100 > 0 by omega)
    show _ = some (bI (decide (zsl m 12 0 0 % (x % 100) = x / 100)))
    exact z_ib (nI_eq (by omega) (by omega))
  · have hx' : v2 = nI x := hx.resolve_left (by decide)
    subst hx'
    dsimp only at z2
    rw [if_neg (show ¬ nI 5 = 3 by decide), if_neg (show ¬ nI 5 = 4 by decide), if_pos (show nI 5 = 5 from rfl), zI_shr (by omega) (by omega), zI_and1]
    show _ = some (bI (decide ((m >>> x) % 2 = 1)))
    exact z_ib (nI_eq1 (by omega))
  · have hx' : v2 = nI x := hx.resolve_left (by decide)
    subst hx'
    dsimp only at z2
    rw [if_neg (show ¬ nI 6 = 3 by decide), if_neg (show ¬ nI 6 = 4 by decide), if_neg (show ¬ nI 6 = 5 by decide), if_pos (show nI 6 = 6 from rfl), if_neg (by decide), if_neg (by decide), if_neg (by decide), if_pos rfl, z_run1 (by omega), z_b8 (by omega) (znd_12 (by omega)), z_sbind]
    have := zpc_le (znd m (m <<< 1))
    exact z_ib (nI_eq (by omega) (by omega))
  · rw [if_neg (show ¬ nI 7 = 3 by decide), if_neg (show ¬ nI 7 = 4 by decide), if_neg (show ¬ nI 7 = 5 by decide), if_neg (show ¬ nI 7 = 6 by decide), if_pos (show nI 7 = 7 from rfl), if_neg (by decide), if_neg (by decide), if_neg (by decide), if_neg (by decide), if_pos rfl, f8_trn h hn (by omega) (by omega), z_sbind]
    have := zrev_lt n m
    exact z_ib (nI_eq (by omega) (by omega))
  · have hx' : v2 = nI x := hx.resolve_left (by decide)
    subst hx'
    dsimp only at z2
    rw [if_neg (show ¬ nI 8 = 3 by decide), if_neg (show ¬ nI 8 = 4 by decide), if_neg (show ¬ nI 8 = 5 by decide), if_neg (show ¬ nI 8 = 6 by decide), if_neg (show ¬ nI 8 = 7 by decide), if_neg (by decide), if_neg (by decide), if_neg (by decide), if_neg (by decide), if_neg (by decide), f8_has (hls x (by omega)).2 (by omega) (hls x (by omega)).1.1 (zlw_lt (hls x (by omega)).1 hn) (by omega) (by omega), z_sbind, if_pos (bI_g _)]
theorem f5_passes {a : xT} {n m N k x i : Nat} {ls : Nat → List Nat} (h : gI a 0 = nI n) (hn : n ≤ 12) (hls : ∀ j, j < 6 → zlA a j (ls j)) (hm : m < 2 ^ n) (hv : zvd (k, x)) (hk : 3 ≤ k) (hi : i < 120) (h9 : gA a 9 i = nI (zk7 k)) (h10 : gA a 10 i = nI (znm (k, x))) (h11 : gA a 11 i = nI (zdv (k, x))) (hN : 200 ≤ N) : f_X5_passes N (nI i) (nI m) a = some (bI (zlf n ls m k x)) := by
  have hp := z_pow n (by omega)
  have hpc := zpc_le m
  unfold f_X5_passes zlf
  simp only [nI_clamp (show i < 2 ^ 31 by omega), h9, h10, h11, if_pos (z_xin hi (show 120 < 2 ^ 31 by decide))]
  rcases hv with z | ⟨z1, z2⟩ | ⟨z1, z2, z3⟩ | ⟨z1, z2⟩ | ⟨z1, z2⟩ | z1 | ⟨z1, z2⟩
  · change k < 3 at z; omega
  all_goals (dsimp only at z1; subst z1)
  · dsimp only at z2
    rw [show nI (zk7 3) = 1 from rfl, show znm (3, x) = x from rfl, if_pos rfl, if_pos rfl, z_bc m (by omega), z_sbind]
    exact z_ib (nI_eq (by omega) (by omega))
  · dsimp only at z2 z3
    have hs := zsl_le (m := m) 12 0 0
    have hmod : x % 100 < 100 := Nat.mod_lt _ (by decide)
    rw [show nI (zk7 4) = 2 from rfl, show znm (4, x) = x / 100 from rfl, show zdv (4, x) = x % 100 from rfl, if_neg (by decide), if_pos rfl, if_neg (show ¬ nI (x % 100) ≤ 0 from nI_ge (a := 0) (by omega) (by omega)), f5_smo (by omega) (by omega), z_sbind, if_pos (fun z => by rw [nI_eq0 (by omega)] at z; omega), pk_rem (by omega) (by omega) (by omega)]
    have := Nat.mod_lt (zsl m 12 0 0) (show x % 100 > 0 by omega)
    show _ = some (bI (decide (zsl m 12 0 0 % (x % 100) = x / 100)))
    exact z_ib (nI_eq (by omega) (by omega))
  · dsimp only at z2
    rw [show nI (zk7 5) = 3 from rfl, show znm (5, x) = x from rfl, if_neg (by decide), if_neg (by decide), if_pos rfl, zI_shr (by omega) (by omega), zI_and1]
    show _ = some (bI (decide ((m >>> x) % 2 = 1)))
    by_cases c : (m >>> x) % 2 = 1
    · rw [if_neg (fun z => by rw [nI_eq0 (by omega)] at z; omega), decide_eq_true c]; rfl
    · rw [if_pos ((nI_eq0 (by omega)).mpr (by omega)), decide_eq_false c]; rfl
  · dsimp only at z2
    rw [show nI (zk7 6) = 4 from rfl, show znm (6, x) = x from rfl, if_neg (by decide), if_neg (by decide), if_neg (by decide), if_pos rfl, if_neg (by decide), if_neg (by decide), if_neg (by decide), if_pos rfl, z_run1 (by omega), z_bc _ (znd_12 (by omega)), z_sbind]
    have := zpc_le (znd m (m <<< 1))
    exact z_ib (nI_eq (by omega) (by omega))
  · rw [show nI (zk7 7) = 5 from rfl, if_neg (by decide), if_neg (by decide), if_neg (by decide), if_neg (by decide), if_pos rfl, if_neg (by decide), if_neg (by decide), if_neg (by decide), if_neg (by decide), if_pos rfl, f1_rev h hn (by omega) (by omega), z_sbind]
    have := zrev_lt n m
    exact z_ib (nI_eq (by omega) (by omega))
  · dsimp only at z2
    rw [show nI (zk7 8) = 6 from rfl, show znm (8, x) = x from rfl, if_neg (by decide), if_neg (by decide), if_neg (by decide), if_neg (by decide), if_neg (by decide), if_neg (nI_pos (by omega)), if_neg (show ¬ (6 : Int32) ≤ nI x from nI_ge (b := 6) (by omega) (by decide)), if_pos (z_xin (by omega) (by decide)), nI_clamp (by omega), f3_holds (hls x (by omega)) (by omega), z_sbind]
    show _ = some (bI (decide (m ∈ ls x)))
    cases decide (m ∈ ls x) <;> rfl
