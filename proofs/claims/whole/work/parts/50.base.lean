/-! the pure part: what the two states have in common -/
theorem gI_sI (a : xT) (k j : Nat) (v : Int32) : gI (sI a k v) j = if j = k then v else gI a j := rfl
theorem gI_sA (a : xT) (k : Nat) (f : Nat → Int32) (j : Nat) : gI (sA a k f) j = gI a j := rfl
theorem gI_sB (a : xT) (k : Nat) (f : Nat → Int64) (j : Nat) : gI (sB a k f) j = gI a j := rfl
theorem gI_sJ (a : xT) (k : Nat) (v : Int64) (j : Nat) : gI (sJ a k v) j = gI a j := rfl
theorem gA_sI (a : xT) (k : Nat) (v : Int32) (j : Nat) : gA (sI a k v) j = gA a j := rfl
theorem gA_sA (a : xT) (k j : Nat) (f : Nat → Int32) : gA (sA a k f) j = if j = k then f else gA a j := rfl
theorem gA_sB (a : xT) (k : Nat) (f : Nat → Int64) (j : Nat) : gA (sB a k f) j = gA a j := rfl
theorem gA_sJ (a : xT) (k : Nat) (v : Int64) (j : Nat) : gA (sJ a k v) j = gA a j := rfl
theorem gB_sI (a : xT) (k : Nat) (v : Int32) (j : Nat) : gB (sI a k v) j = gB a j := rfl
theorem gB_sA (a : xT) (k : Nat) (f : Nat → Int32) (j : Nat) : gB (sA a k f) j = gB a j := rfl
theorem gB_sB (a : xT) (k j : Nat) (f : Nat → Int64) : gB (sB a k f) j = if j = k then f else gB a j := rfl
theorem gB_sJ (a : xT) (k : Nat) (v : Int64) (j : Nat) : gB (sJ a k v) j = gB a j := rfl
theorem gJ_sJ (a : xT) (k j : Nat) (v : Int64) : gJ (sJ a k v) j = if j = k then v else gJ a j := rfl
theorem gJ_sI (a : xT) (k : Nat) (v : Int32) (j : Nat) : gJ (sI a k v) j = gJ a j := rfl
theorem gJ_sA (a : xT) (k : Nat) (f : Nat → Int32) (j : Nat) : gJ (sA a k f) j = gJ a j := rfl
theorem gJ_sB (a : xT) (k : Nat) (f : Nat → Int64) (j : Nat) : gJ (sB a k f) j = gJ a j := rfl
theorem upd_at (f : Nat → Int32) (k : Nat) (x : Int32) (j : Nat) : upd f k x j = if j = k then x else f j := rfl
theorem updL_at (f : Nat → Int64) (k : Nat) (x : Int64) (j : Nat) : vp_updL f k x j = if j = k then x else f j := rfl
/-! marks as whole numbers -/
def zpc (m : Nat) : Nat := ((List.range 12).filter (fun k => m.testBit k)).length
def znd (m s : Nat) : Nat := m ^^^ (m &&& s)
def zrl (m : Nat) : Nat → Nat → Nat → Nat
  | 0, _, acc => acc
  | r + 1, k, acc => zrl m r (k + 1) (2 * acc + (m >>> k) % 2)
def zrev (n m : Nat) : Nat := zrl m n 0 0
def znear (f m k : Nat) : Bool := decide (zpc (znd m k) ≤ f) && decide (zpc (znd k m) ≤ f)
def zfar (kd t d : Nat) : Nat := t + (if kd < 2 then 0 else d)
def zalike (n kd t d m k : Nat) : Bool := if kd = 0 then decide (zpc (m ^^^ k) ≤ t) else znear (zfar kd t d) m k || (decide (kd = 3) && znear (zfar kd t d) (zrev n m) k)
/-- the most marks, none of them alike, and of these the first row -/
def zWf (A : Nat → Nat → Bool) : Nat → List Nat → List Nat
  | 0, _ => []
  | _ + 1, [] => []
  | f + 1, m :: L => if (zWf A f L).length ≤ (zWf A f (L.filter (fun k => !A m k))).length + 1 then m :: zWf A f (L.filter (fun k => !A m k)) else zWf A f L
def zW (A : Nat → Nat → Bool) (L : List Nat) : List Nat := zWf A L.length L
def zL0 (n : Nat) (w : Int32) : List Nat := (List.range' 0 (2 ^ n)).filter (fun m => decide (w = -1 ∨ nI (zpc m) = w))
def zmost (n kd t d : Nat) (w : Int32) (r : List Nat) : Prop := r = zW (zalike n kd t d) (zL0 n w)
/-! the two states and what they hold -/
def zis (a : xT) (n kd t d : Nat) : Prop := gI a 0 = nI n ∧ gI a 1 = nI kd ∧ gI a 2 = nI t ∧ gI a 3 = nI d
def zbit (x : Int64) (j : Nat) : Bool := x.toBitVec.getLsbD j
def zlA (a : xT) (k : Nat) (l : List Nat) : Prop := gI a (23 + k) = nI l.length ∧ (∀ i, i < l.length → gA a (30 + k) i = nI (l.getD i 0)) ∧ ∀ m, m < 4096 → zbit (gB a (37 + k) (m / 64)) (m % 64) = decide (m ∈ l)
def zlB (b : xT) (k : Nat) (l : List Nat) : Prop := gA b 45 k = nI l.length ∧ ∀ i, i < l.length → gA b 46 (64 * k + i) = nI (l.getD i 0)
def zlw (n : Nat) (l : List Nat) : Prop := l.length ≤ 64 ∧ l.Nodup ∧ ∀ m ∈ l, m < 2 ^ n
def zbd (n kd t d : Nat) : Prop := 2 ≤ n ∧ n ≤ 12 ∧ kd ≤ 3 ∧ t ≤ 4 ∧ d ≤ 4
def zls (a b : xT) (n : Nat) : Prop := ∃ ls : Nat → List Nat, ∀ k, k < 6 → zlw n (ls k) ∧ zlA a k (ls k) ∧ zlB b k (ls k)
def zlo (a b : xT) (n : Nat) : Prop := ∀ p, p < 12 → gA a 4 p = gA b 57 p ∧ (gA a 4 p = -1 ∨ (p < n ∧ ∃ v, v ≤ 9 ∧ gA a 4 p = nI v))
def ztx (a b : xT) : Prop := ∃ tl, tl ≤ 120 ∧ gI a 5 = nI tl ∧ gI b 14 = nI tl ∧ ∀ j, j < tl → gA a 7 j = gA b 52 j ∧ ∃ c, c < 256 ∧ gA a 7 j = nI c
def zca (a : xT) (n kd t d : Nat) : Prop := gI a 16 = 0 ∨ (n ≤ 5 ∧ ∃ r, zmost n kd t d (gI a 15) r ∧ gI a 14 = nI r.length ∧ ∀ i, i < r.length → gA a 16 i = nI (r.getD i 0))
def zInv (a b : xT) : Prop := ∃ n kd t d, zbd n kd t d ∧ zis a n kd t d ∧ zis b n kd t d ∧ zls a b n ∧ zlo a b n ∧ ztx a b ∧ gI a 11 = gI b 15 ∧ zca a n kd t d
/-! what keeps the parts -/
theorem zis_keep {a a2 : xT} {n kd t d : Nat} (h : zis a n kd t d) (e : ∀ j, j < 4 → gI a2 j = gI a j) : zis a2 n kd t d := by
  obtain ⟨h0, h1, h2, h3⟩ := h
  exact ⟨(e 0 (by decide)).trans h0, (e 1 (by decide)).trans h1, (e 2 (by decide)).trans h2, (e 3 (by decide)).trans h3⟩
theorem zlA_keep {a a2 : xT} {k : Nat} {l : List Nat} (h : zlA a k l) (e1 : gI a2 (23 + k) = gI a (23 + k)) (e2 : ∀ i, gA a2 (30 + k) i = gA a (30 + k) i) (e3 : ∀ i, gB a2 (37 + k) i = gB a (37 + k) i) : zlA a2 k l :=
  ⟨e1.trans h.1, fun i hi => (e2 i).trans (h.2.1 i hi), fun m hm => by rw [e3]; exact h.2.2 m hm⟩
theorem zlB_keep {b b2 : xT} {k : Nat} {l : List Nat} (h : zlB b k l) (e1 : gA b2 45 k = gA b 45 k) (e2 : ∀ i, gA b2 46 (64 * k + i) = gA b 46 (64 * k + i)) : zlB b2 k l :=
  ⟨e1.trans h.1, fun i hi => (e2 i).trans (h.2 i hi)⟩
theorem zca_keep {a a2 : xT} {n kd t d : Nat} (h : zca a n kd t d) (e1 : gI a2 14 = gI a 14) (e2 : gI a2 15 = gI a 15) (e3 : gI a2 16 = gI a 16) (e4 : ∀ i, gA a2 16 i = gA a 16 i) : zca a2 n kd t d := by
  rcases h with h | ⟨h0, r, h1, h2, h3⟩
  · exact Or.inl (e3.trans h)
  · exact Or.inr ⟨h0, r, by rw [e2]; exact h1, e1.trans h2, fun i hi => (e4 i).trans (h3 i hi)⟩
/-! small numbers -/
theorem i32_lit (n : Nat) : (OfNat.ofNat n : Int32) = nI n := rfl
theorem i32_rng {v : Int32} (lo hi : Nat) (h0 : ¬ v < nI lo) (h1 : ¬ nI hi < v) (hh : hi < 2 ^ 31) (hl : lo < 2 ^ 31) : ∃ j, lo ≤ j ∧ j ≤ hi ∧ v = nI j := by
  have a1 : (nI lo).toInt = (lo : Int) := nI_toInt hl
  have a2 : (nI hi).toInt = (hi : Int) := nI_toInt hh
  have b1 : ¬ v.toInt < (nI lo).toInt := fun z => h0 (Int32.lt_iff_toInt_lt.mpr z)
  have b2 : ¬ (nI hi).toInt < v.toInt := fun z => h1 (Int32.lt_iff_toInt_lt.mpr z)
  refine ⟨v.toInt.toNat, by omega, by omega, ?_⟩
  apply Int32.toInt_inj.mp
  rw [nI_toInt (by omega)]
  omega
theorem i64_wide (v : Int32) : v.toInt64.toInt = v.toInt := by simp
theorem i64_lt (v w : Int32) : (v.toInt64 < w.toInt64) ↔ v < w := by
  rw [Int64.lt_iff_toInt_lt, i64_wide, i64_wide, Int32.lt_iff_toInt_lt]
/-- within: 1 or 0 -/
theorem f7_within (v lo hi : Int32) : f_X7_within v lo hi = some (if v < lo ∨ hi < v then 0 else 1) := by
  unfold f_X7_within
  by_cases h1 : v < lo
  · simp [h1]
  · by_cases h2 : hi < v
    · simp [h1, h2]
    · simp [h1, h2]
theorem f8_in (v lo hi : Int32) : f_X8_in v.toInt64 lo.toInt64 hi.toInt64 = some (if v < lo ∨ hi < v then 0 else 1) := by
  unfold f_X8_in
  by_cases h1 : v < lo
  · simp [i64_lt, h1]
  · by_cases h2 : hi < v
    · simp [i64_lt, h1, h2]
    · simp [i64_lt, h1, h2]
