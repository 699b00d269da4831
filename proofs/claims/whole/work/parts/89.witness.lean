/-! the witness -/
theorem z_shq (s q : Nat) : s >>> (q + 1) = (s >>> q) / 2 := Nat.shiftRight_succ s q
theorem z_shb (s q : Nat) : (s >>> q) % 2 = if s.testBit q then 1 else 0 := by
  rw [Nat.testBit, Nat.and_comm, Nat.and_one_is_mod]
  have h4 : (s >>> q) % 2 < 2 := Nat.mod_lt _ (by decide)
  rcases (show (s >>> q) % 2 = 0 ∨ (s >>> q) % 2 = 1 by omega) with e | e <;> rw [e] <;> decide
theorem z_sha {s s2 q : Nat} (h : s >>> q = s2 >>> q) : ∀ j, q ≤ j → s.testBit j = s2.testBit j := fun j hj => by
  have := congrArg (fun v => v.testBit (j - q)) h
  simp only [Nat.testBit_shiftRight] at this
  rwa [show q + (j - q) = j by omega] at this
theorem f1_least_loop {a : xT} {n kd t d m k : Nat} (h : zis a n kd t d) (hb : zbd n kd t d) (hkd : kd ≠ 0) (hm : m < 2 ^ n) (hk : k < 2 ^ n) : ∀ q s fuel, q ≤ n → s < 2 ^ n → (∀ j, j < q → s.testBit j = false) → zfe n t (zex kd d) m k s q → (∀ s2, zvl n t (zex kd d) m k s2 → s >>> q ≤ s2 >>> q) → q < fuel → ∃ w, f_X1_leastSeen_L24 (nI m) (nI k) a fuel (nI s) (nI (zdc n q)) (nI q - 1) = some (nI w) ∧ w < 2 ^ n ∧ zvl n t (zex kd d) m k w ∧ ∀ s2, zvl n t (zex kd d) m k s2 → w ≤ s2 := by
  have hn := hb.2.1
  intro q
  induction q with
  | zero =>
    intro s fuel hq hs hz hf hl hfu
    obtain ⟨fu, rfl⟩ : ∃ fu, fuel = fu + 1 := ⟨fuel - 1, by omega⟩
    refine ⟨s, ?_, hs, ?_, fun s2 h2 => by simpa using hl s2 h2⟩
    · rw [f_X1_leastSeen_L24, if_pos (by decide)]
    · obtain ⟨f1, f2, f3, f4, -⟩ := hf
      exact ⟨f1, f3, f2, f4⟩
  | succ q ih =>
    intro s fuel hq hs hz hf hl hfu
    obtain ⟨fu, rfl⟩ : ∃ fu, fuel = fu + 1 := ⟨fuel - 1, by omega⟩
    have e1 : nI (q + 1) - 1 = nI q := pk_sub (b := 1) (by omega)
    have e2 : nI q + (-1) = nI q - 1 := (Int32.sub_eq_add_neg _ _).symm
    have hbq := hz q (by omega)
    have hA := z_shb s q
    rw [hbq] at hA
    simp only [Bool.false_eq_true, if_false] at hA
    rw [e1, f_X1_leastSeen_L24, if_neg (nI_pos (by omega)), z_one q (by omega), zI_or, zI_or, zdc_s (by omega), e2]
    rcases f1_canEnd h hb hkd hm hk hs (show q ≤ n by omega) (fun j hj => hz j (by omega)) with ⟨c1, c2⟩ | ⟨c1, c2⟩
    · rw [c2, z_sbind, if_neg z10]
      refine ih s fu (by omega) hs (fun j hj => hz j (by omega)) c1 (fun s2 h2 => ?_) (by omega)
      have := hl s2 h2
      rw [z_shq, z_shq] at this
      omega
    · rw [c2, z_sbind, if_pos rfl]
      have hs' : s ||| 2 ^ q < 2 ^ n := Nat.or_lt_two_pow hs (Nat.pow_lt_pow_right (by decide) (by omega))
      refine ih (s ||| 2 ^ q) fu (by omega) hs' (fun j hj => by rw [zor_ne (by omega)]; exact hz j (by omega)) (zfe_fill (by omega) hbq hf c1) (fun s2 h2 => ?_) (by omega)
      have g1 := hl s2 h2
      have g2 := z_shb (s ||| 2 ^ q) q
      rw [zor_at] at g2
      simp only [if_true] at g2
      have g3 : (s ||| 2 ^ q) >>> (q + 1) = s >>> (q + 1) := by
        apply Nat.eq_of_testBit_eq
        intro j
        rw [Nat.testBit_shiftRight, Nat.testBit_shiftRight, zor_ne (by omega)]
      rw [z_shq, z_shq] at g1 g3
      by_cases c3 : s >>> q = s2 >>> q
      · exact absurd (zfe_of (by omega) h2 (fun j h1 _ => z_sha c3 j h1)) c1
      · omega
theorem znear_fl {n f m k : Nat} (hn : n ≤ 12) (hm : m < 2 ^ n) (hk : k < 2 ^ n) : znear f m k = true ↔ zfl (zxn m k) 0 n ≤ f ∧ zfl (zxn k m) 0 n ≤ f := by
  have p1 : zpc (znd m k) = zfl (zxn m k) 0 n := by
    rw [zpc_fl hn (znd_lt hm)]
    exact zfl_ext _ _ (fun j _ _ => znd_bit m k j)
  have p2 : zpc (znd k m) = zfl (zxn k m) 0 n := by
    rw [zpc_fl hn (znd_lt hk)]
    exact zfl_ext _ _ (fun j _ _ => znd_bit k m j)
  unfold znear
  rw [p1, p2]
  simp
theorem znr_fl {n t e m s : Nat} (hn : n ≤ 12) (hm : m < 2 ^ n) (hs : s < 2 ^ n) : znr t e m s = true ↔ zfl (zxn m s) 0 n ≤ t ∧ zfl (zxn s m) 0 n ≤ e := by
  have p1 : zpc (znd m s) = zfl (zxn m s) 0 n := by
    rw [zpc_fl hn (znd_lt hm)]
    exact zfl_ext _ _ (fun j _ _ => znd_bit m s j)
  have p2 : zpc (znd s m) = zfl (zxn s m) 0 n := by
    rw [zpc_fl hn (znd_lt hs)]
    exact zfl_ext _ _ (fun j _ _ => znd_bit s m j)
  unfold znr
  rw [p1, p2]
  simp
/-- a number that is the least of its kind, or -1 where there is none -/
def zop (n : Nat) (P : Nat → Prop) (v : Int32) : Prop := (v = -1 ∧ ∀ s, s < 2 ^ n → ¬ P s) ∨ ∃ w, w < 2 ^ n ∧ v = nI w ∧ P w ∧ ∀ s, s < 2 ^ n → P s → w ≤ s
theorem f1_least {a : xT} {n kd t d m k N : Nat} (h : zis a n kd t d) (hb : zbd n kd t d) (hkd : kd ≠ 0) (hm : m < 2 ^ n) (hk : k < 2 ^ n) (hN : 100 ≤ N) : ∃ v, f_X1_leastSeen N (nI m) (nI k) a = some v ∧ zop n (fun s => znr t (zex kd d) m s = true ∧ znr t (zex kd d) k s = true) v := by
  have hn := hb.2.1
  have hp := z_pow n (by omega)
  have hfar : zfar kd t d = t + zex kd d := rfl
  have hnr := znear_fl (f := zfar kd t d) hn hm hk
  rw [hfar] at hnr
  have hiff : ∀ s, s < 2 ^ n → ((znr t (zex kd d) m s = true ∧ znr t (zex kd d) k s = true) ↔ zvl n t (zex kd d) m k s) := fun s hs => by
    rw [znr_fl hn hm hs, znr_fl hn hk hs]
    unfold zvl
    exact ⟨fun z => ⟨z.1.1, z.1.2, z.2.1, z.2.2⟩, fun z => ⟨⟨z.1, z.2.1⟩, z.2.2.1, z.2.2.2⟩⟩
  unfold f_X1_leastSeen
  rw [f1_near h hb hkd (by omega) (by omega), z_sbind, hfar, h.1]
  by_cases c : znear (t + zex kd d) m k = true
  · rw [c, if_neg (by decide)]
    obtain ⟨w, w1, w2, w3, w4⟩ := f1_least_loop h hb hkd hm hk n 0 N (Nat.le_refl n) (Nat.two_pow_pos n) (fun j _ => Nat.zero_testBit j) (zfe_near.mpr (hnr.mp c)) (fun s2 _ => by rw [Nat.zero_shiftRight]; exact Nat.zero_le _) (by omega)
    rw [show zdc n n = 0 by unfold zdc; rw [Nat.sub_self]; simp, show nI 0 = (0 : Int32) from rfl] at w1
    rw [w1, z_sbind]
    exact ⟨_, rfl, Or.inr ⟨w, w2, rfl, (hiff w w2).mpr w3, fun s hs z => w4 s ((hiff s hs).mp z)⟩⟩
  · have c' : znear (t + zex kd d) m k = false := by simpa using c
    rw [c', if_pos (by decide)]
    refine ⟨_, rfl, Or.inl ⟨rfl, fun s hs z => c (hnr.mpr ?_)⟩⟩
    exact zfe_near.mp (zfe_of (s := 0) (Nat.le_refl n) ((hiff s hs).mp z) (fun j h1 h2 => by omega))
theorem zop_lesser {n : Nat} {P Q : Nat → Prop} {v w : Int32} (hn : n ≤ 12) (h1 : zop n P v) (h2 : zop n Q w) : ∃ u, f_X1_lesser v w = some u ∧ zop n (fun s => P s ∨ Q s) u := by
  have hp := z_pow n (by omega)
  have hlt : ∀ x, x < 2 ^ n → ¬ (nI x < (-1 : Int32)) := fun x hx z => by
    rw [Int32.lt_iff_toInt_lt, nI_toInt (by omega)] at z
    rw [show (-1 : Int32).toInt = -1 from rfl] at z
    omega
  have hlt2 : ∀ x, x < 2 ^ n → (-1 : Int32) < nI x := fun x hx => by
    rw [Int32.lt_iff_toInt_lt, nI_toInt (by omega), show (-1 : Int32).toInt = -1 from rfl]
    omega
  unfold f_X1_lesser xmax xmin
  rcases h1 with ⟨rfl, a1⟩ | ⟨x, x1, rfl, x2, x3⟩
  · rw [if_pos rfl]
    rcases h2 with ⟨rfl, b1⟩ | ⟨y, y1, rfl, y2, y3⟩
    · exact ⟨_, rfl, Or.inl ⟨by decide, fun s hs z => z.elim (a1 s hs) (b1 s hs)⟩⟩
    · rw [if_pos (hlt2 y y1)]
      exact ⟨_, rfl, Or.inr ⟨y, y1, rfl, Or.inr y2, fun s hs z => z.elim (fun q => absurd q (a1 s hs)) (y3 s hs)⟩⟩
  · rw [if_neg (nI_nneg (by omega))]
    rcases h2 with ⟨rfl, b1⟩ | ⟨y, y1, rfl, y2, y3⟩
    · rw [if_pos rfl, if_neg (hlt x x1)]
      exact ⟨_, rfl, Or.inr ⟨x, x1, rfl, Or.inl x2, fun s hs z => z.elim (x3 s hs) (fun q => absurd q (b1 s hs))⟩⟩
    · rw [if_neg (nI_nneg (by omega))]
      by_cases c : y < x
      · rw [if_pos (nI_lt c (by omega))]
        exact ⟨_, rfl, Or.inr ⟨y, y1, rfl, Or.inr y2, fun s hs z => z.elim (fun q => by have := x3 s hs q; omega) (y3 s hs)⟩⟩
      · rw [if_neg (nI_nlt (by omega) (by omega))]
        exact ⟨_, rfl, Or.inr ⟨x, x1, rfl, Or.inl x2, fun s hs z => z.elim (x3 s hs) (fun q => by have := y3 s hs q; omega)⟩⟩
theorem zop_iff {n : Nat} {P Q : Nat → Prop} {v : Int32} (h : zop n P v) (e : ∀ s, s < 2 ^ n → (P s ↔ Q s)) : zop n Q v := by
  rcases h with ⟨h1, h2⟩ | ⟨w, h1, h2, h3, h4⟩
  · exact Or.inl ⟨h1, fun s hs z => h2 s hs ((e s hs).mpr z)⟩
  · exact Or.inr ⟨w, h1, h2, (e w h1).mp h3, fun s hs z => h4 s hs ((e s hs).mpr z)⟩
def zww (n kd t d m k s : Nat) : Prop := zsee n kd t d m s 0 = true ∧ zsee n kd t d k s 0 = true
theorem zsee_1 {n kd t d m s : Nat} (h0 : kd ≠ 0) (h3 : kd ≠ 3) : zsee n kd t d m s 0 = znr t (zex kd d) m s := by
  unfold zsee
  rw [if_neg h0]
  simp [h3]
theorem zsee_3 {n t d m s : Nat} : zsee n 3 t d m s 0 = (znr t (zex 3 d) m s || znr t (zex 3 d) (zrev n m) s) := by
  unfold zsee
  simp
theorem f1_wit {a : xT} {n kd t d m k N : Nat} (h : zis a n kd t d) (hb : zbd n kd t d) (hkd : kd ≠ 0) (hm : m < 2 ^ n) (hk : k < 2 ^ n) (hN : 100 ≤ N) : ∃ v, f_X1_witnessSeen N (nI m) (nI k) a = some v ∧ zop n (zww n kd t d m k) v := by
  have hn := hb.2.1
  have hp := z_pow n (by omega)
  have h3 := hb.2.2.1
  unfold f_X1_witnessSeen
  rw [h.2.1, if_neg (fun z => hkd ((nI_eq0 (by omega)).mp z))]
  obtain ⟨v1, e1, o1⟩ := f1_least (N := N) h hb hkd hm hk hN
  rw [e1, z_sbind]
  by_cases c : kd = 3
  · subst c
    rw [if_pos (show nI 3 = (3 : Int32) from rfl), f1_rev h.1 hn (by omega) (by omega), z_sbind, f1_rev h.1 hn (by omega) (by omega), z_sbind]
    obtain ⟨v2, e2, o2⟩ := f1_least (N := N) h hb hkd (zrev_lt n m) hk hN
    obtain ⟨v3, e3, o3⟩ := f1_least (N := N) h hb hkd hm (zrev_lt n k) hN
    obtain ⟨v4, e4, o4⟩ := f1_least (N := N) h hb hkd (zrev_lt n m) (zrev_lt n k) hN
    rw [e2, z_sbind]
    obtain ⟨u1, f1, p1⟩ := zop_lesser hn o1 o2
    rw [f1, z_sbind, e3, z_sbind]
    obtain ⟨u2, f2, p2⟩ := zop_lesser hn p1 o3
    rw [f2, z_sbind, e4, z_sbind]
    obtain ⟨u3, f3, p3⟩ := zop_lesser hn p2 o4
    rw [f3, z_sbind]
    refine ⟨u3, rfl, zop_iff p3 (fun s hs => ?_)⟩
    unfold zww
    rw [zsee_3, zsee_3]
    cases znr t (zex 3 d) m s <;> cases znr t (zex 3 d) k s <;> cases znr t (zex 3 d) (zrev n m) s <;> cases znr t (zex 3 d) (zrev n k) s <;> decide
  · rw [if_neg (show ¬ nI kd = 3 from fun z => c ((nI_eq3 (by omega)).mp z))]
    refine ⟨v1, rfl, zop_iff o1 (fun s hs => ?_)⟩
    unfold zww
    rw [zsee_1 hkd c, zsee_1 hkd c]
theorem f8_wit_loop {b : xT} {n kd t d m k w N : Nat} (v3 : Int32) (h : zis b n kd t d) (hb : zbd n kd t d) (hm : m < 2 ^ n) (hk : k < 2 ^ n) (hw : w < 2 ^ n) (h1 : zww n kd t d m k w) (h2 : ∀ s, s < 2 ^ n → zww n kd t d m k s → w ≤ s) (hN : 20 ≤ N) : ∀ r s fuel, s + r = w → r < fuel → f_X8_witness_L28 N (nI m) (nI k) v3 b fuel (nI s) = some (nI w) := by
  have hn := hb.2.1
  have hp := z_pow n (by omega)
  intro r
  induction r with
  | zero =>
    intro s fuel hs hf
    obtain ⟨fu, rfl⟩ : ∃ fu, fuel = fu + 1 := ⟨fuel - 1, by omega⟩
    have e : s = w := by omega
    subst e
    have g1 := f8_maySee (N := N) (q := 0) h hb hN (show m < 4096 by omega) (show s < 4096 by omega) (by decide)
    have g2 := f8_maySee (N := N) (q := 0) h hb hN (show k < 4096 by omega) (show s < 4096 by omega) (by decide)
    rw [show nI 0 = (0 : Int32) from rfl] at g1 g2
    rw [f_X8_witness_L28, g1, z_sbind, g2, z_sbind, h1.1, h1.2]
    rfl
  | succ r ih =>
    intro s fuel hs hf
    obtain ⟨fu, rfl⟩ : ∃ fu, fuel = fu + 1 := ⟨fuel - 1, by omega⟩
    have hno : ¬ zww n kd t d m k s := fun z => by have := h2 s (by omega) z; omega
    have g1 := f8_maySee (N := N) (q := 0) h hb hN (show m < 4096 by omega) (show s < 4096 by omega) (by decide)
    have g2 := f8_maySee (N := N) (q := 0) h hb hN (show k < 4096 by omega) (show s < 4096 by omega) (by decide)
    rw [show nI 0 = (0 : Int32) from rfl] at g1 g2
    rw [f_X8_witness_L28, g1, z_sbind, g2, z_sbind, nI_1, ih (s + 1) fu (by omega) (by omega)]
    unfold zww at hno
    cases q1 : zsee n kd t d m s 0 <;> cases q2 : zsee n kd t d k s 0
    · rfl
    · rfl
    · rfl
    · exact absurd ⟨q1, q2⟩ hno
/-- alike is: there is a witness -/
theorem zalike_iff {n kd t d m k : Nat} {v : Int32} (hb : zbd n kd t d) (hkd : kd ≠ 0) (hm : m < 2 ^ n) (hk : k < 2 ^ n) : zalike n kd t d m k = true ↔ ∃ s, s < 2 ^ n ∧ zww n kd t d m k s := by
  have hn := hb.2.1
  have hp := z_pow n (by omega)
  have hfar : zfar kd t d = t + zex kd d := rfl
  have base : ∀ x y, x < 2 ^ n → y < 2 ^ n → (znear (t + zex kd d) x y = true ↔ ∃ s, s < 2 ^ n ∧ znr t (zex kd d) x s = true ∧ znr t (zex kd d) y s = true) := by
    intro x y hx hy
    have hnr := znear_fl (f := t + zex kd d) hn hx hy
    have hiff : ∀ s, s < 2 ^ n → ((znr t (zex kd d) x s = true ∧ znr t (zex kd d) y s = true) ↔ zvl n t (zex kd d) x y s) := fun s hs => by
      rw [znr_fl hn hx hs, znr_fl hn hy hs]
      unfold zvl
      exact ⟨fun z => ⟨z.1.1, z.1.2, z.2.1, z.2.2⟩, fun z => ⟨⟨z.1, z.2.1⟩, z.2.2.1, z.2.2.2⟩⟩
    constructor
    · intro z
      have hq : ∀ q, q ≤ n → ∃ s, s < 2 ^ n ∧ (∀ j, j < n - q → s.testBit j = false) ∧ zfe n t (zex kd d) x y s (n - q) := by
        intro q
        induction q with
        | zero => intro _; exact ⟨0, Nat.two_pow_pos n, fun j _ => Nat.zero_testBit j, zfe_near.mpr (hnr.mp z)⟩
        | succ q ih =>
          intro hq
          obtain ⟨s, s1, s2, s3⟩ := ih (by omega)
          by_cases c : zfe n t (zex kd d) x y s (n - (q + 1))
          · exact ⟨s, s1, fun j hj => s2 j (by omega), c⟩
          · refine ⟨s ||| 2 ^ (n - (q + 1)), Nat.or_lt_two_pow s1 (Nat.pow_lt_pow_right (by decide) (by omega)), fun j hj => by rw [zor_ne (by omega)]; exact s2 j (by omega), zfe_fill (by omega) (s2 _ (by omega)) ?_ c⟩
            rw [show n - (q + 1) + 1 = n - q by omega]; exact s3
      obtain ⟨s, s1, -, f1, f2, f3, f4, -⟩ := hq n (Nat.le_refl n)
      rw [Nat.sub_self] at f1 f2 f3 f4
      exact ⟨s, s1, (hiff s s1).mpr ⟨f1, f3, f2, f4⟩⟩
    · rintro ⟨s, hs, z⟩
      exact hnr.mpr (zfe_near.mp (zfe_of (s := 0) (Nat.le_refl n) ((hiff s hs).mp z) (fun j h1 h2 => by omega)))
  unfold zalike
  rw [if_neg hkd, hfar]
  by_cases c : kd = 3
  · subst c
    simp only [decide_true, Bool.true_and, Bool.or_eq_true]
    rw [base m k hm hk, base (zrev n m) k (zrev_lt n m) hk]
    constructor
    · rintro (⟨s, hs, z1, z2⟩ | ⟨s, hs, z1, z2⟩)
      · exact ⟨s, hs, by unfold zww; rw [zsee_3, zsee_3, z1, z2]; simp⟩
      · exact ⟨s, hs, by unfold zww; rw [zsee_3, zsee_3, z1, z2]; simp⟩
    · rintro ⟨s, hs, z⟩
      unfold zww at z
      rw [zsee_3, zsee_3] at z
      have hmr := znear_mr (f := t + zex 3 d) hn hm hk
      have hrr := znear_rr (f := t + zex 3 d) hn hm hk
      rw [← base m k hm hk, ← base (zrev n m) k (zrev_lt n m) hk]
      rcases (Bool.or_eq_true _ _).mp z.1 with z1 | z1 <;> rcases (Bool.or_eq_true _ _).mp z.2 with z2 | z2
      · exact Or.inl ((base m k hm hk).mpr ⟨s, hs, z1, z2⟩)
      · right; rw [← hmr]; exact (base m (zrev n k) hm (zrev_lt n k)).mpr ⟨s, hs, z1, z2⟩
      · exact Or.inr ((base (zrev n m) k (zrev_lt n m) hk).mpr ⟨s, hs, z1, z2⟩)
      · left; rw [← hrr]; exact (base (zrev n m) (zrev n k) (zrev_lt n m) (zrev_lt n k)).mpr ⟨s, hs, z1, z2⟩
  · simp only [c, decide_false, Bool.false_and, Bool.or_false]
    rw [base m k hm hk]
    unfold zww
    rw [show (∃ s, s < 2 ^ n ∧ zsee n kd t d m s 0 = true ∧ zsee n kd t d k s 0 = true) ↔ ∃ s, s < 2 ^ n ∧ znr t (zex kd d) m s = true ∧ znr t (zex kd d) k s = true from ⟨fun ⟨s, h1, h2, h3⟩ => ⟨s, h1, by rwa [zsee_1 hkd c] at h2, by rwa [zsee_1 hkd c] at h3⟩, fun ⟨s, h1, h2, h3⟩ => ⟨s, h1, by rwa [zsee_1 hkd c], by rwa [zsee_1 hkd c]⟩⟩]
