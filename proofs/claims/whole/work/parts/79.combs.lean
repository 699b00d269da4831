/-! sets of one to three, smaller ones first, each kind in the order of its rows -/
def zk2 : List Nat → List (List Nat)
  | [] => []
  | x :: xs => xs.map (fun y => [x, y]) ++ zk2 xs
def zk3 : List Nat → List (List Nat)
  | [] => []
  | x :: xs => (zk2 xs).map (fun c => x :: c) ++ zk3 xs
def zka (F : List Nat) (h : Nat) : List (List Nat) := F.map (fun x => [x]) ++ ((if 2 ≤ h then zk2 F else []) ++ (if 3 ≤ h then zk3 F else []))
theorem zk2_filter (p : Nat → Bool) : ∀ xs : List Nat, zk2 (xs.filter p) = (zk2 xs).filter (fun c => c.all p)
  | [] => rfl
  | x :: xs => by
    rw [zk2, List.filter_append, ← zk2_filter p xs, List.filter_map, List.filter_cons]
    by_cases c : p x = true
    · rw [if_pos c, zk2]
      congr 2
      apply List.filter_congr
      intro y _
      simp [c]
    · rw [if_neg c]
      have e : List.filter ((fun c => List.all c p) ∘ fun y => [x, y]) xs = [] := by
        rw [List.filter_eq_nil_iff]
        intro y _
        simp [c]
      rw [e]; rfl
theorem zk3_filter (p : Nat → Bool) : ∀ xs : List Nat, zk3 (xs.filter p) = (zk3 xs).filter (fun c => c.all p)
  | [] => rfl
  | x :: xs => by
    rw [zk3, List.filter_append, ← zk3_filter p xs, List.filter_map, List.filter_cons]
    by_cases c : p x = true
    · rw [if_pos c, zk3, zk2_filter]
      congr 2
      apply List.filter_congr
      intro y _
      simp [c]
    · rw [if_neg c]
      have e : List.filter ((fun c => List.all c p) ∘ fun c => x :: c) (zk2 xs) = [] := by
        rw [List.filter_eq_nil_iff]
        intro y _
        simp [c]
      rw [e]; rfl
theorem zka_filter (p : Nat → Bool) (xs : List Nat) (h : Nat) : zka (xs.filter p) h = (zka xs h).filter (fun c => c.all p) := by
  unfold zka
  rw [List.filter_append, List.filter_append, zk2_filter, zk3_filter, List.filter_map]
  congr 1
  · congr 1
    apply List.filter_congr
    intro y _
    simp
  · congr 1
    · split <;> rfl
    · split <;> rfl
theorem zk2_mem : ∀ (xs : List Nat) (c : List Nat), c ∈ zk2 xs → c.length = 2 ∧ ∀ x ∈ c, x ∈ xs
  | [], c, h => absurd h List.not_mem_nil
  | x :: xs, c, h => by
    rcases List.mem_append.mp h with z | z
    · obtain ⟨y, hy, rfl⟩ := List.mem_map.mp z
      refine ⟨rfl, fun q hq => ?_⟩
      rcases List.mem_cons.mp hq with rfl | hq
      · exact List.mem_cons_self
      · rw [List.mem_singleton.mp hq]; exact List.mem_cons_of_mem _ hy
    · obtain ⟨h1, h2⟩ := zk2_mem xs c z
      exact ⟨h1, fun q hq => List.mem_cons_of_mem _ (h2 q hq)⟩
theorem zk3_mem : ∀ (xs : List Nat) (c : List Nat), c ∈ zk3 xs → c.length = 3 ∧ ∀ x ∈ c, x ∈ xs
  | [], c, h => absurd h List.not_mem_nil
  | x :: xs, c, h => by
    rcases List.mem_append.mp h with z | z
    · obtain ⟨y, hy, rfl⟩ := List.mem_map.mp z
      obtain ⟨h1, h2⟩ := zk2_mem xs y hy
      refine ⟨by rw [List.length_cons, h1], fun q hq => ?_⟩
      rcases List.mem_cons.mp hq with rfl | hq
      · exact List.mem_cons_self
      · exact List.mem_cons_of_mem _ (h2 q hq)
    · obtain ⟨h1, h2⟩ := zk3_mem xs c z
      exact ⟨h1, fun q hq => List.mem_cons_of_mem _ (h2 q hq)⟩
theorem zka_mem {xs c : List Nat} {h : Nat} (hc : c ∈ zka xs h) : 0 < c.length ∧ c.length ≤ 3 ∧ ∀ x ∈ c, x ∈ xs := by
  unfold zka at hc
  rcases List.mem_append.mp hc with z | z
  · obtain ⟨y, hy, rfl⟩ := List.mem_map.mp z
    exact ⟨by simp, by simp, fun q hq => by rw [List.mem_singleton.mp hq]; exact hy⟩
  · rcases List.mem_append.mp z with z | z
    · split at z
      · obtain ⟨h1, h2⟩ := zk2_mem _ _ z
        exact ⟨by omega, by omega, h2⟩
      · exact absurd z List.not_mem_nil
    · split at z
      · obtain ⟨h1, h2⟩ := zk3_mem _ _ z
        exact ⟨by omega, by omega, h2⟩
      · exact absurd z List.not_mem_nil
theorem zk2_len : ∀ xs : List Nat, xs.length ≤ 64 → (zk2 xs).length ≤ 64 * xs.length
  | [], _ => Nat.le_refl _
  | x :: xs, h => by
    rw [List.length_cons] at h
    have := zk2_len xs (by omega)
    rw [zk2, List.length_append, List.length_map, List.length_cons]
    omega
theorem zk3_len : ∀ xs : List Nat, xs.length ≤ 64 → (zk3 xs).length ≤ 4096 * xs.length
  | [], _ => Nat.le_refl _
  | x :: xs, h => by
    rw [List.length_cons] at h
    have := zk3_len xs (by omega)
    have h2 := zk2_len xs (by omega)
    rw [zk3, List.length_append, List.length_map, List.length_cons]
    omega
theorem zka_len {xs : List Nat} {h : Nat} (hl : xs.length ≤ 64) : (zka xs h).length ≤ 300000 := by
  have h2 := zk2_len xs hl
  have h3 := zk3_len xs hl
  unfold zka
  rw [List.length_append, List.length_append, List.length_map]
  split <;> split <;> (try simp only [List.length_nil]) <;> omega
/-! what comes next, as the reference goes on -/
def znx (len h : Nat) : List Nat → Option (List Nat)
  | [] => if 0 < len then some [0] else none
  | [i] => if i + 1 < len then some [i + 1] else if 2 ≤ h ∧ 2 ≤ len then some [0, 1] else none
  | [i, j] => if j + 1 < len then some [i, j + 1] else if i + 2 < len then some [i + 1, i + 2] else if 3 ≤ h ∧ 3 ≤ len then some [0, 1, 2] else none
  | [i, j, l] => if l + 1 < len then some [i, j, l + 1] else if j + 2 < len then some [i, j + 1, j + 2] else if i + 3 < len then some [i + 1, i + 2, i + 3] else none
  | _ => none
def zcn (len h : Nat) : List Nat → List (List Nat) → List Nat → Prop
  | c, [], e => c = e
  | c, x :: xs, e => znx len h c = some x ∧ zcn len h x xs e
theorem zcn_app {len h : Nat} : ∀ (xs ys : List (List Nat)) (c m e : List Nat), zcn len h c xs m → zcn len h m ys e → zcn len h c (xs ++ ys) e
  | [], ys, c, m, e, h1, h2 => by
    have : c = m := h1
    subst this; exact h2
  | x :: xs, ys, c, m, e, h1, h2 => ⟨h1.1, zcn_app xs ys x m e h1.2 h2⟩
theorem zcn_1 {len h : Nat} : ∀ r i, i + r < len → zcn len h [i] ((List.range' (i + 1) r).map (fun x => [x])) [i + r]
  | 0, i, _ => rfl
  | r + 1, i, hi => by
    rw [List.range'_succ, List.map_cons]
    refine ⟨if_pos (by omega), ?_⟩
    have := zcn_1 (len := len) (h := h) r (i + 1) (by omega)
    rw [show i + (r + 1) = i + 1 + r by omega]
    exact this
theorem zcn_r2 {len h i : Nat} : ∀ r j, j + r < len → zcn len h [i, j] ((List.range' (j + 1) r).map (fun x => [i, x])) [i, j + r]
  | 0, j, _ => rfl
  | r + 1, j, hj => by
    rw [List.range'_succ, List.map_cons]
    refine ⟨if_pos (by omega), ?_⟩
    have := zcn_r2 (len := len) (h := h) (i := i) r (j + 1) (by omega)
    rw [show j + (r + 1) = j + 1 + r by omega]
    exact this
theorem zcn_2 {len h : Nat} : ∀ r i c, i + (r + 2) = len → znx len h c = some [i, i + 1] → zcn len h c (zk2 (List.range' i (r + 2))) [len - 2, len - 1]
  | 0, i, c, hi, hc => by
    refine ⟨hc, ?_⟩
    show [i, i + 1] = _
    rw [show len - 2 = i by omega, show len - 1 = i + 1 by omega]
  | r + 1, i, c, hi, hc => by
    rw [show r + 1 + 2 = r + 2 + 1 from rfl, List.range'_succ, zk2]
    have h1 : zcn len h c ((List.range' (i + 1) (r + 2)).map (fun y => [i, y])) [i, len - 1] := by
      rw [List.range'_succ, List.map_cons]
      refine ⟨hc, ?_⟩
      have := zcn_r2 (len := len) (h := h) (i := i) (r + 1) (i + 1) (by omega)
      rw [show len - 1 = i + 1 + (r + 1) by omega]
      exact this
    refine zcn_app _ _ _ _ _ h1 (zcn_2 r (i + 1) _ (by omega) ?_)
    show (if _ then _ else _) = _
    rw [if_neg (by omega), if_pos (by omega)]
theorem zcn_r3 {len h i j : Nat} : ∀ r l, l + r < len → zcn len h [i, j, l] ((List.range' (l + 1) r).map (fun x => [i, j, x])) [i, j, l + r]
  | 0, l, _ => rfl
  | r + 1, l, hl => by
    rw [List.range'_succ, List.map_cons]
    refine ⟨if_pos (by omega), ?_⟩
    have := zcn_r3 (len := len) (h := h) (i := i) (j := j) r (l + 1) (by omega)
    rw [show l + (r + 1) = l + 1 + r by omega]
    exact this
theorem zcn_m3 {len h i : Nat} : ∀ r j c, j + (r + 2) = len → znx len h c = some [i, j, j + 1] → zcn len h c ((zk2 (List.range' j (r + 2))).map (fun c => i :: c)) [i, len - 2, len - 1]
  | 0, j, c, hj, hc => by
    refine ⟨hc, ?_⟩
    show [i, j, j + 1] = _
    rw [show len - 2 = j by omega, show len - 1 = j + 1 by omega]
  | r + 1, j, c, hj, hc => by
    rw [show r + 1 + 2 = r + 2 + 1 from rfl, List.range'_succ, zk2, List.map_append, List.map_map]
    have h1 : zcn len h c ((List.range' (j + 1) (r + 2)).map ((fun c => i :: c) ∘ fun y => [j, y])) [i, j, len - 1] := by
      rw [List.range'_succ, List.map_cons]
      refine ⟨hc, ?_⟩
      have := zcn_r3 (len := len) (h := h) (i := i) (j := j) (r + 1) (j + 1) (by omega)
      rw [show len - 1 = j + 1 + (r + 1) by omega]
      exact this
    refine zcn_app _ _ _ _ _ h1 (zcn_m3 r (j + 1) _ (by omega) ?_)
    show (if _ then _ else _) = _
    rw [if_neg (by omega), if_pos (by omega)]
theorem zcn_3 {len h : Nat} : ∀ r i c, i + (r + 3) = len → znx len h c = some [i, i + 1, i + 2] → zcn len h c (zk3 (List.range' i (r + 3))) [len - 3, len - 2, len - 1]
  | 0, i, c, hi, hc => by
    refine ⟨hc, ?_⟩
    show [i, i + 1, i + 2] = _
    rw [show len - 3 = i by omega, show len - 2 = i + 1 by omega, show len - 1 = i + 2 by omega]
  | r + 1, i, c, hi, hc => by
    rw [show r + 1 + 3 = r + 3 + 1 from rfl, List.range'_succ, zk3]
    have h1 := zcn_m3 (len := len) (h := h) (i := i) (r + 1) (i + 1) c (by omega) hc
    refine zcn_app _ _ _ _ _ h1 (zcn_3 r (i + 1) _ (by omega) ?_)
    show (if _ then _ else _) = _
    rw [if_neg (by omega), if_neg (by omega), if_pos (by omega)]
/-- the whole row of them, from the start to where nothing comes next -/
theorem zcn_all {len h : Nat} (h1 : 1 ≤ h) : ∃ e, zcn len h [] (zka (List.range' 0 len) h) e ∧ znx len h e = none := by
  unfold zka
  by_cases c0 : len = 0
  · subst c0
    refine ⟨[], ?_, rfl⟩
    show zcn 0 h [] (_ ++ (_ ++ _)) _
    have e2 : (if 2 ≤ h then zk2 (List.range' 0 0) else []) = [] := by split <;> rfl
    have e3 : (if 3 ≤ h then zk3 (List.range' 0 0) else []) = [] := by split <;> rfl
    rw [e2, e3]; rfl
  have s1 : zcn len h [] ((List.range' 0 len).map (fun x => [x])) [len - 1] := by
    obtain ⟨r, rfl⟩ : ∃ r, len = r + 1 := ⟨len - 1, by omega⟩
    rw [List.range'_succ, List.map_cons]
    refine ⟨by simp [znx], ?_⟩
    have := zcn_1 (len := r + 1) (h := h) r 0 (by omega)
    rw [Nat.zero_add r] at this
    exact this
  by_cases c2 : 2 ≤ h ∧ 2 ≤ len
  · obtain ⟨r, rfl⟩ : ∃ r, len = r + 2 := ⟨len - 2, by omega⟩
    have s2 : zcn (r + 2) h [r + 2 - 1] (zk2 (List.range' 0 (r + 2))) [r + 2 - 2, r + 2 - 1] := by
      refine zcn_2 r 0 _ (by omega) ?_
      show (if _ then _ else _) = _
      rw [if_neg (by omega), if_pos c2]
    rw [if_pos c2.1]
    by_cases c3 : 3 ≤ h
    · rw [if_pos c3]
      by_cases c4 : r = 0
      · subst c4
        refine ⟨_, zcn_app _ _ _ _ _ s1 (zcn_app _ _ _ _ _ s2 rfl), ?_⟩
        simp [znx]
      · obtain ⟨q, rfl⟩ : ∃ q, r = q + 1 := ⟨r - 1, by omega⟩
        have s3 : zcn (q + 3) h [q + 3 - 2, q + 3 - 1] (zk3 (List.range' 0 (q + 3))) [q + 3 - 3, q + 3 - 2, q + 3 - 1] := by
          refine zcn_3 q 0 _ (by omega) ?_
          show (if _ then _ else _) = _
          rw [if_neg (by omega), if_neg (by omega), if_pos (by omega)]
        refine ⟨_, zcn_app _ _ _ _ _ s1 (zcn_app _ _ _ _ _ s2 s3), ?_⟩
        show (if _ then _ else _) = _
        rw [if_neg (by omega), if_neg (by omega), if_neg (by omega)]
    · rw [if_neg c3]
      refine ⟨_, zcn_app _ _ _ _ _ s1 (zcn_app _ _ _ _ _ s2 rfl), ?_⟩
      show (if _ then _ else _) = _
      rw [if_neg (by omega), if_neg (by omega), if_neg (by omega)]
  · refine ⟨[len - 1], ?_, ?_⟩
    · have e2 : (if 2 ≤ h then zk2 (List.range' 0 len) else []) = [] := by
        split
        · have : len = 1 := by omega
          subst this; rfl
        · rfl
      have e3 : (if 3 ≤ h then zk3 (List.range' 0 len) else []) = [] := by
        split
        · have : len = 1 := by omega
          subst this; rfl
        · rfl
      rw [e2, e3]
      exact zcn_app _ _ _ _ _ s1 rfl
    · show (if _ then _ else _) = _
      rw [if_neg (by omega), if_neg c2]
