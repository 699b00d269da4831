/-! what a mark may be seen as; alike -/
def bI (x : Bool) : Int32 := if x then 1 else 0
theorem bI_ne (x : Bool) : (bI x = 0) ↔ x = false := by cases x <;> decide
theorem bI_g (x : Bool) : bI x &&& 1 = bI x := by cases x <;> decide
def zex (kd d : Nat) : Nat := if kd < 2 then 0 else d
def znr (t e m s : Nat) : Bool := decide (zpc (znd m s) ≤ t) && decide (zpc (znd s m) ≤ e)
def zsee (n kd t d m s q : Nat) : Bool := if kd = 0 then decide (zpc q ≤ t) && decide (znd m q = s) else decide (q = 0) && (znr t (zex kd d) m s || (decide (kd = 3) && znr t (zex kd d) (zrev n m) s))
theorem zpc_le (m : Nat) : zpc m ≤ 12 := by
  have := List.length_filter_le (fun k => m.testBit k) (List.range 12)
  rwa [List.length_range] at this
theorem znd_12 {m s : Nat} (h : m < 4096) : znd m s < 4096 := znd_lt (k := 12) h
theorem nI_lt_iff {a b : Nat} (ha : a < 2 ^ 31) (hb : b < 2 ^ 31) : nI a < nI b ↔ ¬ b ≤ a := by rw [nI_ltI ha hb]; omega
theorem nI_eq0 {a : Nat} (ha : a < 2 ^ 31) : (nI a = 0) ↔ a = 0 := nI_eq (b := 0) ha (by decide)
theorem nI_eq1 {a : Nat} (ha : a < 2 ^ 31) : (nI a = 1) ↔ a = 1 := nI_eq (b := 1) ha (by decide)
theorem nI_eq3 {a : Nat} (ha : a < 2 ^ 31) : (nI a = 3) ↔ a = 3 := nI_eq (b := 3) ha (by decide)
theorem f1_extra {a : xT} {n kd t d : Nat} (h : zis a n kd t d) (hb : zbd n kd t d) (hk : kd ≠ 0) : f_X1_extra a = some (nI (zex kd d)) := by
  obtain ⟨-, -, h3, -, h5⟩ := hb
  unfold f_X1_extra zex
  rw [h.2.1, h.2.2.2]
  by_cases c : kd = 1
  · subst c; rw [if_pos (show nI 1 = (1 : Int32) from rfl), if_pos (by decide)]; rfl
  · rw [if_neg (fun z => c ((nI_eq1 (by omega)).mp z)), if_neg (by omega)]
theorem f1_strays {a : xT} {n kd t d m s : Nat} (h : zis a n kd t d) (hb : zbd n kd t d) (hk : kd ≠ 0) (hm : m < 4096) (hs : s < 4096) : f_X1_strays (nI m) (nI s) a = some (bI (znr t (zex kd d) m s)) := by
  have hx := f1_extra h hb hk
  obtain ⟨-, -, h3, h4, h5⟩ := hb
  have he : zex kd d ≤ 4 := by unfold zex; split <;> omega
  unfold f_X1_strays znr
  rw [znd_and, znd_and, z_bc _ (znd_12 hm), z_bc _ (znd_12 hs), hx, h.2.2.1]
  simp only [Option.bind_some]
  have p1 := zpc_le (znd m s)
  have p2 := zpc_le (znd s m)
  by_cases c1 : zpc (znd m s) ≤ t
  · rw [if_neg (by rw [nI_lt_iff (by omega) (by omega)]; exact fun z => z c1)]
    by_cases c2 : zpc (znd s m) ≤ zex kd d
    · rw [if_neg (by rw [nI_lt_iff (by omega) (by omega)]; exact fun z => z c2)]; simp [c1, c2, bI]
    · rw [if_pos (by rw [nI_lt_iff (by omega) (by omega)]; exact c2)]; simp [c1, c2, bI]
  · rw [if_pos (by rw [nI_lt_iff (by omega) (by omega)]; exact c1)]; simp [c1, bI]
theorem f8_isNear {b : xT} {n kd t d m s N : Nat} (h : zis b n kd t d) (hb : zbd n kd t d) (hN : 20 ≤ N) (hm : m < 4096) (hs : s < 4096) : f_X8_isNear N (nI m) (nI s) b = some (bI (znr t (zex kd d) m s)) := by
  obtain ⟨-, -, h3, h4, h5⟩ := hb
  unfold f_X8_isNear znr
  rw [znd_and, znd_and, z_b8 (by omega) (znd_12 hm), z_b8 (by omega) (znd_12 hs), h.2.2.1, h.2.1, h.2.2.2]
  simp only [Option.bind_some]
  have p1 := zpc_le (znd m s)
  have p2 := zpc_le (znd s m)
  by_cases c1 : zpc (znd m s) ≤ t
  · rw [if_neg (by rw [nI_lt_iff (by omega) (by omega)]; exact fun z => z c1)]
    by_cases c0 : kd < 2
    · have he : zex kd d = 0 := if_pos c0
      rw [if_neg (show ¬ ((2 : Int32) ≤ nI kd) from nI_ge (b := 2) c0 (by decide)), he]
      by_cases c2 : zpc (znd s m) ≤ 0
      · rw [if_neg (show ¬ ((0 : Int32) < nI (zpc (znd s m))) by rw [show (0 : Int32) = nI 0 from rfl, nI_lt_iff (by omega) (by omega)]; exact fun z => z c2)]; simp [c1, c2, bI]
      · rw [if_pos (show ((0 : Int32) < nI (zpc (znd s m))) by rw [show (0 : Int32) = nI 0 from rfl, nI_lt_iff (by omega) (by omega)]; exact c2)]; simp [c1, c2, bI]
    · have he : zex kd d = d := if_neg c0
      rw [if_pos (show ((2 : Int32) ≤ nI kd) from nI_le (a := 2) (by omega) (by omega)), he]
      by_cases c2 : zpc (znd s m) ≤ d
      · rw [if_neg (by rw [nI_lt_iff (by omega) (by omega)]; exact fun z => z c2)]; simp [c1, c2, bI]
      · rw [if_pos (by rw [nI_lt_iff (by omega) (by omega)]; exact c2)]; simp [c1, c2, bI]
  · rw [if_pos (by rw [nI_lt_iff (by omega) (by omega)]; exact c1)]; simp [c1, bI]
theorem f1_canShow {a : xT} {n kd t d m s q N : Nat} (h : zis a n kd t d) (hb : zbd n kd t d) (hN : 20 ≤ N) (hm : m < 4096) (hs : s < 4096) (hq : q < 4096) : f_X1_canShow N (nI m) (nI s) (nI q) a = some (bI (zsee n kd t d m s q)) := by
  obtain ⟨h1, h2, h3, h4, h5⟩ := id hb
  have hp := z_pow n (by omega)
  have hr := zrev_lt n m
  unfold f_X1_canShow zsee
  rw [h.2.1, h.2.2.1]
  by_cases c0 : kd = 0
  · subst c0
    rw [if_pos (show nI 0 = (0 : Int32) from rfl), if_pos rfl, z_bc _ hq, znd_and]
    simp only [Option.bind_some]
    have p1 := zpc_le q
    by_cases c1 : zpc q ≤ t
    · rw [if_neg (by rw [nI_lt_iff (by omega) (by omega)]; exact fun z => z c1)]
      have hz := znd_12 (s := q) hm
      by_cases c2 : znd m q = s
      · rw [if_pos (by rw [c2])]; simp [c1, c2, bI]
      · rw [if_neg (fun z => c2 ((nI_eq (by omega) (by omega)).mp z))]; simp [c1, c2, bI]
    · rw [if_pos (by rw [nI_lt_iff (by omega) (by omega)]; exact c1)]; simp [c1, bI]
  · rw [if_neg (fun z => c0 ((nI_eq0 (by omega)).mp z)), if_neg c0, f1_strays h hb c0 hm hs, f1_rev h.1 h2 hm hN]
    simp only [Option.bind_some]
    rw [f1_strays h hb c0 (by omega) hs]
    simp only [Option.bind_some, bI_ne]
    by_cases c1 : q = 0
    · subst c1
      rw [if_pos (show nI 0 = (0 : Int32) from rfl)]
      by_cases c2 : kd = 3
      · subst c2
        rw [if_pos (show nI 3 = (3 : Int32) from rfl)]
        cases znr t (zex 3 d) m s <;> cases znr t (zex 3 d) (zrev n m) s <;> rfl
      · rw [if_neg (show ¬ nI kd = 3 from fun z => c2 ((nI_eq3 (by omega)).mp z))]
        simp only [c2, decide_false, Bool.false_and, Bool.or_false]
        cases znr t (zex kd d) m s <;> rfl
    · rw [if_neg (fun z => c1 ((nI_eq0 (by omega)).mp z))]
      simp [c1, bI]
theorem f8_maySee {b : xT} {n kd t d m s q N : Nat} (h : zis b n kd t d) (hb : zbd n kd t d) (hN : 20 ≤ N) (hm : m < 4096) (hs : s < 4096) (hq : q < 4096) : f_X8_maySee N (nI m) (nI s) (nI q) b = some (bI (zsee n kd t d m s q)) := by
  obtain ⟨h1, h2, h3, h4, h5⟩ := id hb
  have hp := z_pow n (by omega)
  have hr := zrev_lt n m
  unfold f_X8_maySee zsee
  rw [h.2.1, h.2.2.1]
  by_cases c0 : kd = 0
  · subst c0
    rw [if_pos (show nI 0 = (0 : Int32) from rfl), if_pos rfl, z_b8 (by omega) hq, znd_and]
    simp only [Option.bind_some]
    have p1 := zpc_le q
    by_cases c1 : zpc q ≤ t
    · rw [if_neg (by rw [nI_lt_iff (by omega) (by omega)]; exact fun z => z c1)]
      have hz := znd_12 (s := q) hm
      by_cases c2 : znd m q = s
      · rw [if_pos (by rw [c2])]; simp [c1, c2, bI]
      · rw [if_neg (fun z => c2 ((nI_eq (by omega) (by omega)).mp z))]; simp [c1, c2, bI]
    · rw [if_pos (by rw [nI_lt_iff (by omega) (by omega)]; exact c1)]; simp [c1, bI]
  · rw [if_neg (fun z => c0 ((nI_eq0 (by omega)).mp z)), if_neg c0, f8_isNear h hb hN hm hs, f8_trn h.1 h2 hm hN]
    simp only [Option.bind_some]
    rw [f8_isNear h hb hN (by omega) hs]
    simp only [Option.bind_some, bI_ne]
    by_cases c1 : q = 0
    · subst c1
      rw [if_pos (show nI 0 = (0 : Int32) from rfl)]
      by_cases c2 : kd = 3
      · subst c2
        rw [if_pos (show nI 3 = (3 : Int32) from rfl)]
        cases znr t (zex 3 d) m s <;> cases znr t (zex 3 d) (zrev n m) s <;> rfl
      · rw [if_neg (show ¬ nI kd = 3 from fun z => c2 ((nI_eq3 (by omega)).mp z))]
        simp only [c2, decide_false, Bool.false_and, Bool.or_false]
        cases znr t (zex kd d) m s <;> rfl
    · rw [if_neg (fun z => c1 ((nI_eq0 (by omega)).mp z))]
      simp [c1, bI]
/-- isSeen on both sides -/
theorem z_seen {a b : xT} {n : Nat} (v w : Int32) (ha : gI a 0 = nI n) (hB : gI b 0 = nI n) (hn : n ≤ 12) : (f_X1_isSeen v w a = some 0 ∧ f_X8_isSeen v w b = some 0) ∨ (f_X1_isSeen v w a = some 1 ∧ f_X8_isSeen v w b = some 1 ∧ ∃ s q, s < 2 ^ n ∧ q < 2 ^ n ∧ v = nI s ∧ w = nI q) := by
  unfold f_X1_isSeen f_X8_isSeen
  rw [f1_isSet v ha hn, f1_isSet w ha hn, f8_isMark v hB hn, f8_isMark w hB hn]
  simp only [Option.bind_some]
  by_cases c1 : v < 0 ∨ nI (2 ^ n - 1) < v
  · left; rw [if_pos c1]; exact ⟨rfl, rfl⟩
  by_cases c2 : w < 0 ∨ nI (2 ^ n - 1) < w
  · left; rw [if_neg c1, if_pos c2]; exact ⟨rfl, rfl⟩
  rw [if_neg c1, if_neg c2]
  obtain ⟨s, hs, e1⟩ := z_setOf hn c1
  obtain ⟨q, hq, e2⟩ := z_setOf hn c2
  by_cases c3 : v &&& w = 0
  · right; rw [if_pos c3]; exact ⟨rfl, rfl, s, q, hs, hq, e1, e2⟩
  · left; rw [if_neg c3]; exact ⟨rfl, rfl⟩
theorem p_may {N : Nat} (hN : 20 ≤ N) : xP_may N zInv := by
  intro y1 y2 y3 a b hI
  obtain ⟨n, kd, t, d, hb, ha, hB, -⟩ := id hI
  have hn := hb.2.1
  have hp := z_pow n (by omega)
  unfold f_X7_may f_X8_may
  rw [f1_isSet y1 ha.1 hn, f8_isMark y1 hB.1 hn]
  simp only [Option.bind_some]
  by_cases c : y1 < 0 ∨ nI (2 ^ n - 1) < y1
  · rw [if_pos c]
    exact ⟨_, rfl, rfl, hI⟩
  rw [if_neg c]
  obtain ⟨m, hm, rfl⟩ := z_setOf hn c
  rcases z_seen y2 y3 ha.1 hB.1 hn with ⟨e1, e2⟩ | ⟨e1, e2, s, q, hs, hq, rfl, rfl⟩
  · rw [e1, e2]
    exact ⟨_, rfl, rfl, hI⟩
  · rw [e1, e2]
    simp only [Option.bind_some]
    rw [f1_canShow ha hb hN (by omega) (by omega) (by omega), f8_maySee hB hb hN (by omega) (by omega) (by omega)]
    simp only [Option.bind_some]
    cases zsee n kd t d m s q <;> exact ⟨_, rfl, rfl, hI⟩
