/-! framed: whether there is a cover at all -/
def zre (g : Nat → Nat) (tg : Nat) : List Nat → Nat → Nat → Bool
  | [], _, _ => false
  | x :: xs, hv, lf => decide (0 < lf) && (decide (hv ||| g x = tg) || (zre g tg xs (hv ||| g x) (lf - 1) || zre g tg xs hv lf))
def zoh (g : Nat → Nat) (hv : Nat) (c : List Nat) : Nat := c.foldl (fun acc x => acc ||| g x) hv
theorem zre_0 {g : Nat → Nat} {tg : Nat} : ∀ (xs : List Nat) (hv : Nat), zre g tg xs hv 0 = false
  | [], _ => rfl
  | _ :: _, _ => rfl
theorem zre_1 {g : Nat → Nat} {tg : Nat} : ∀ (xs : List Nat) (hv : Nat), zre g tg xs hv 1 = xs.any (fun x => decide (hv ||| g x = tg))
  | [], _ => rfl
  | x :: xs, hv => by
    rw [zre, zre_1 xs hv, show 1 - 1 = 0 from rfl, zre_0, List.any_cons]
    simp
theorem zre_2 {g : Nat → Nat} {tg : Nat} : ∀ (xs : List Nat) (hv : Nat), zre g tg xs hv 2 = (xs.any (fun x => decide (hv ||| g x = tg)) || (zk2 xs).any (fun c => decide (zoh g hv c = tg)))
  | [], _ => rfl
  | x :: xs, hv => by
    rw [zre, zre_2 xs hv, show 2 - 1 = 1 from rfl, zre_1, List.any_cons, zk2, List.any_append, List.any_map]
    have e : xs.any ((fun c => decide (zoh g hv c = tg)) ∘ fun y => [x, y]) = xs.any (fun y => decide ((hv ||| g x) ||| g y = tg)) := rfl
    rw [e]
    generalize decide (hv ||| g x = tg) = A
    generalize xs.any (fun y => decide ((hv ||| g x) ||| g y = tg)) = B
    generalize xs.any (fun x => decide (hv ||| g x = tg)) = C
    generalize (zk2 xs).any (fun c => decide (zoh g hv c = tg)) = D
    cases A <;> cases B <;> cases C <;> cases D <;> rfl
theorem zre_3 {g : Nat → Nat} {tg : Nat} : ∀ (xs : List Nat) (hv : Nat), zre g tg xs hv 3 = (xs.any (fun x => decide (hv ||| g x = tg)) || ((zk2 xs).any (fun c => decide (zoh g hv c = tg)) || (zk3 xs).any (fun c => decide (zoh g hv c = tg))))
  | [], _ => rfl
  | x :: xs, hv => by
    rw [zre, zre_3 xs hv, show 3 - 1 = 2 from rfl, zre_2, List.any_cons, zk2, zk3, List.any_append, List.any_append, List.any_map, List.any_map]
    have e : xs.any ((fun c => decide (zoh g hv c = tg)) ∘ fun y => [x, y]) = xs.any (fun y => decide ((hv ||| g x) ||| g y = tg)) := rfl
    have e2 : (zk2 xs).any ((fun c => decide (zoh g hv c = tg)) ∘ fun c => x :: c) = (zk2 xs).any (fun c => decide (zoh g (hv ||| g x) c = tg)) := rfl
    rw [e, e2]
    generalize decide (hv ||| g x = tg) = A
    generalize xs.any (fun y => decide ((hv ||| g x) ||| g y = tg)) = B
    generalize xs.any (fun x => decide (hv ||| g x = tg)) = C
    generalize (zk2 xs).any (fun c => decide (zoh g hv c = tg)) = D
    generalize (zk2 xs).any (fun c => decide (zoh g (hv ||| g x) c = tg)) = E
    generalize (zk3 xs).any (fun c => decide (zoh g hv c = tg)) = G
    cases A <;> cases B <;> cases C <;> cases D <;> cases E <;> cases G <;> rfl
theorem zre_a {g : Nat → Nat} {tg h : Nat} {F : List Nat} (h1 : 1 ≤ h) (h3 : h ≤ 3) : zre g tg F 0 h = (zka F h).any (zok g tg) := by
  have e1 : (F.map (fun x => [x])).any (zok g tg) = F.any (fun x => decide (0 ||| g x = tg)) := by
    rw [List.any_map]; rfl
  have e2 : (zk2 F).any (zok g tg) = (zk2 F).any (fun c => decide (zoh g 0 c = tg)) := rfl
  have e3 : (zk3 F).any (zok g tg) = (zk3 F).any (fun c => decide (zoh g 0 c = tg)) := rfl
  unfold zka
  rw [List.any_append, List.any_append, e1]
  rcases (show h = 1 ∨ h = 2 ∨ h = 3 by omega) with rfl | rfl | rfl
  · rw [zre_1]; simp
  · rw [zre_2, if_pos (by decide), if_neg (by decide), e2]; simp
  · rw [zre_3, if_pos (by decide), if_pos (by decide), e2, e3]
theorem f0_reach {a : xT} {F : List Nat} {g : Nat → Nat} {tg N : Nat} (hp : zpt a F g tg) (hF : F.length ≤ 64) (hg : ∀ x ∈ F, g x < 4096) (ht : tg < 4096) (hN : 5000 ≤ N) : ∀ D lf i hv, lf ≤ D → D ≤ 5 → i ≤ F.length → hv < 4096 → f_X0_canReach (D + 1) N (nI i) (nI hv) (nI lf) a = some (bI (zre g tg (F.drop i) hv lf)) := by
  intro D
  induction D with
  | zero =>
    intro lf i hv hlf hD hi hh
    have e0 : lf = 0 := by omega
    subst e0
    obtain ⟨fu, rfl⟩ : ∃ fu, N = fu + 1 := ⟨N - 1, by omega⟩
    rw [f_X0_canReach, f_X0_canReach_L3, zre_0, hp.1]
    by_cases c : F.length ≤ i
    · rw [if_pos (nI_le c (by omega))]; rfl
    · rw [if_neg (nI_ge (by omega) (by omega)), if_pos (by decide)]; rfl
  | succ D ih =>
    intro lf i hv hlf hD hi hh
    have loop : ∀ r i fuel, i + r = F.length → r < fuel → f_X0_canReach_L3 (f_X0_canReach (D + 1) N) N (nI hv) (nI lf) a fuel (nI i) = some (if zre g tg (F.drop i) hv lf then .inr () else .inl ()) := by
      intro r
      induction r with
      | zero =>
        intro i fuel hir hf
        obtain ⟨fu, rfl⟩ : ∃ fu, fuel = fu + 1 := ⟨fuel - 1, by omega⟩
        rw [f_X0_canReach_L3, hp.1, if_pos (nI_le (by omega) (by omega)), List.drop_eq_nil_of_le (by omega)]; rfl
      | succ r ih2 =>
        intro i fuel hir hf
        obtain ⟨fu, rfl⟩ : ∃ fu, fuel = fu + 1 := ⟨fuel - 1, by omega⟩
        have hil : i < F.length := by omega
        have hgi := hg _ (z_get hil)
        have hlt : hv ||| g (F.getD i 0) < 4096 := Nat.or_lt_two_pow (n := 12) hh hgi
        rw [f_X0_canReach_L3, hp.1, if_neg (nI_ge (by omega) (by omega))]
        by_cases c0 : lf = 0
        · subst c0
          rw [if_pos (by decide), zre_0]; rfl
        · have e1 : nI lf - 1 = nI (lf - 1) := pk_sub (b := 1) (by omega)
          rw [if_neg (show ¬ nI lf ≤ (0 : Int32) from nI_ge (a := 0) (by omega) (by omega)), if_pos (z_xin (by omega) (by decide)), nI_clamp (by omega), (hp.2.2 i hil).1, hp.2.1, zI_or, nI_1, e1, ih (lf - 1) (i + 1) (hv ||| g (F.getD i 0)) (by omega) (by omega) (by omega) hlt, z_sbind, z_drop hil, zre, decide_eq_true (show 0 < lf by omega)]
          by_cases c1 : hv ||| g (F.getD i 0) = tg
          · rw [if_pos (by rw [c1]), decide_eq_true c1]; rfl
          · rw [if_neg (fun z => c1 ((nI_eq (by omega) (by omega)).mp z)), decide_eq_false c1, ih2 (i + 1) fu (by omega) (by omega)]
            cases zre g tg (F.drop (i + 1)) (hv ||| g (F.getD i 0)) (lf - 1) <;> cases zre g tg (F.drop (i + 1)) hv lf <;> rfl
    rw [f_X0_canReach, loop (F.length - i) i N (by omega) (by omega), z_sbind]
    cases zre g tg (F.drop i) hv lf <;> rfl
theorem f0_cover {a : xT} {F : List Nat} {g : Nat → Nat} {tg N h : Nat} (hp : zpt a F g tg) (hF : F.length ≤ 64) (hg : ∀ x ∈ F, g x < 4096) (ht : tg < 4096) (h1 : 1 ≤ h) (h3 : h ≤ 3) (hN : 5000 ≤ N) : f_X0_canCover N (nI h) a = some (bI ((zka F h).any (zok g tg))) := by
  have := f0_reach hp hF hg ht hN 5 h 0 0 (by omega) (by decide) (by omega) (by decide)
  rw [List.drop_zero, show nI 0 = (0 : Int32) from rfl, zre_a h1 h3] at this
  unfold f_X0_canCover
  rw [this, z_sbind, if_pos (bI_g _)]
/-! the sets are what they should be -/
theorem zk2_cv : ∀ r i c, c ∈ zk2 (List.range' i r) → ∃ x y, c = [x, y] ∧ i ≤ x ∧ x < y ∧ y < i + r
  | 0, i, c, h => absurd h List.not_mem_nil
  | r + 1, i, c, h => by
    rw [List.range'_succ, zk2] at h
    rcases List.mem_append.mp h with z | z
    · obtain ⟨y, hy, rfl⟩ := List.mem_map.mp z
      rw [List.mem_range'_1] at hy
      exact ⟨i, y, rfl, Nat.le_refl _, by omega, by omega⟩
    · obtain ⟨x, y, e, h1, h2, h3⟩ := zk2_cv r (i + 1) c z
      exact ⟨x, y, e, by omega, h2, by omega⟩
theorem zk3_cv : ∀ r i c, c ∈ zk3 (List.range' i r) → ∃ x y w, c = [x, y, w] ∧ i ≤ x ∧ x < y ∧ y < w ∧ w < i + r
  | 0, i, c, h => absurd h List.not_mem_nil
  | r + 1, i, c, h => by
    rw [List.range'_succ, zk3] at h
    rcases List.mem_append.mp h with z | z
    · obtain ⟨c2, hy, rfl⟩ := List.mem_map.mp z
      obtain ⟨x, y, e, h1, h2, h3⟩ := zk2_cv r (i + 1) c2 hy
      exact ⟨i, x, y, by rw [e], Nat.le_refl _, by omega, h2, by omega⟩
    · obtain ⟨x, y, w, e, h1, h2, h3, h4⟩ := zk3_cv r (i + 1) c z
      exact ⟨x, y, w, e, by omega, h2, h3, by omega⟩
theorem zka_cv {len h : Nat} {c : List Nat} (hc : c ∈ zka (List.range' 0 len) h) : zcv len c ∧ c ≠ [] := by
  unfold zka at hc
  rcases List.mem_append.mp hc with z | z
  · obtain ⟨y, hy, rfl⟩ := List.mem_map.mp z
    rw [List.mem_range'_1] at hy
    exact ⟨show y < len by omega, by simp⟩
  · rcases List.mem_append.mp z with z | z
    · split at z
      · obtain ⟨x, y, rfl, h1, h2, h3⟩ := zk2_cv _ _ _ z
        exact ⟨⟨h2, by omega⟩, by simp⟩
      · exact absurd z List.not_mem_nil
    · split at z
      · obtain ⟨x, y, w, rfl, h1, h2, h3, h4⟩ := zk3_cv _ _ _ z
        exact ⟨⟨h2, h3, by omega⟩, by simp⟩
      · exact absurd z List.not_mem_nil
def zfc (l : List Nat) (i : Nat) (c : List Nat) : Bool := zcm (zan (fun x => l.getD x 0) c) (zor (fun x => l.getD x 0) c) (l.getD i 0) && !decide (i ∈ c)
theorem zany_congr {p q : List Nat → Bool} : ∀ L : List (List Nat), (∀ c ∈ L, p c = q c) → L.any p = L.any q
  | [], _ => rfl
  | c :: L, h => by
    rw [List.any_cons, List.any_cons, h c List.mem_cons_self, zany_congr L (fun x hx => h x (List.mem_cons_of_mem _ hx))]
theorem zframe_eq {n h i : Nat} {l : List Nat} (hw : zlw n l) (hi : i < l.length) : (zka ((List.range' 0 l.length).filter (fun x => decide (nI x ≠ nI i))) h).any (zok (fun x => zag n (l.getD x 0) (l.getD i 0)) (2 ^ n - 1)) = (zka (List.range' 0 l.length) h).any (zfc l i) := by
  have hl := hw.1
  rw [zka_filter, List.any_filter]
  apply zany_congr
  intro c hc
  obtain ⟨h1, h2⟩ := zka_cv hc
  rw [z_okcm hw h1 h2 (hw.2.2 _ (z_get hi))]
  unfold zfc
  have e : (c.all fun x => decide (nI x ≠ nI i)) = !decide (i ∈ c) := by
    by_cases q : i ∈ c
    · rw [decide_eq_true q]
      rw [Bool.not_true, List.all_eq_false]
      exact ⟨i, q, by simp⟩
    · rw [decide_eq_false q, Bool.not_false, List.all_eq_true]
      intro x hx
      refine decide_eq_true (fun z => q ?_)
      have := zcv_mem h1 x hx
      have e3 : x = i := (nI_eq (by omega) (by omega)).mp z
      rw [← e3]; exact hx
  rw [e]
  cases zcm (zan (fun x => l.getD x 0) c) (zor (fun x => l.getD x 0) c) (l.getD i 0) <;> cases decide (i ∈ c) <;> rfl
theorem f7_framed_loop {k n kd t d h N : Nat} {l : List Nat} (hb : zbd n kd t d) (hk : k < 6) (hw : zlw n l) (h1 : 1 ≤ h) (h3 : h ≤ 3) (hN : 5000 ≤ N) : ∀ r i acc a fuel, zis a n kd t d → zlA a k l → i + r = l.length → r < fuel → ∃ a2, f_X7_framed_L29 N (nI k) (nI h) fuel (nI acc) (nI i) a = some (nI (acc + zfl (fun j => (zka (List.range' 0 l.length) h).any (zfc l j)) i r), a2) ∧ zcv6 a a2 := by
  have hl := hw.1
  have hn := hb.2.1
  have hp := z_pow n (by omega)
  have hx6 := z_xin (n := 6) hk (by decide)
  intro r
  induction r with
  | zero =>
    intro i acc a fuel ha hA hi hf
    obtain ⟨fu, rfl⟩ : ∃ fu, fuel = fu + 1 := ⟨fuel - 1, by omega⟩
    refine ⟨a, ?_, zcv6_refl a⟩
    rw [f_X7_framed_L29]
    simp only [if_pos hx6]
    rw [nI_clamp (n := k) (by omega), hA.1, if_pos (nI_le (by omega) (by omega)), zfl_0, Nat.add_zero]
  | succ r ih =>
    intro i acc a fuel ha hA hi hf
    obtain ⟨fu, rfl⟩ : ∃ fu, fuel = fu + 1 := ⟨fuel - 1, by omega⟩
    have hil : i < l.length := by omega
    obtain ⟨a2, u0, u1, u2⟩ := f7_offer (s := l.getD i 0) (nI i) hb hk hl ha hA hN
    have hFl : ((List.range' 0 l.length).filter (fun x => decide (nI x ≠ nI i))).length ≤ 64 := by
      have := List.length_filter_le (fun x => decide (nI x ≠ nI i)) (List.range' 0 l.length)
      rw [List.length_range'] at this
      omega
    have hcov := f0_cover (N := N) u1 hFl (fun x _ => by have := zag_lt n (l.getD x 0) (l.getD i 0); show zag n (l.getD x 0) (l.getD i 0) < 4096; omega) (show 2 ^ n - 1 < 4096 by omega) h1 h3 hN
    rw [zframe_eq hw hil] at hcov
    rw [f_X7_framed_L29]
    simp only [if_pos hx6]
    rw [nI_clamp (n := k) (by omega), hA.1, if_neg (nI_ge (by omega) (by omega)), if_pos (z_xin (by omega) (by decide)), nI_clamp (n := i) (by omega), hA.2.1 i hil, u0, z_sbind, hcov, z_sbind, nI_1, nI_1, zfl_s]
    have key : ∀ q, ∃ a3, f_X7_framed_L29 N (nI k) (nI h) fu (nI q) (nI (i + 1)) a2 = some (nI (q + zfl (fun j => (zka (List.range' 0 l.length) h).any (zfc l j)) (i + 1) r), a3) ∧ zcv6 a a3 := by
      intro q
      obtain ⟨a3, e3, f3⟩ := ih (i + 1) q a2 fu (zcv6_is u2 ha) (zcv6_A u2 hA) (by omega) (by omega)
      exact ⟨a3, e3, zcv6_tr u2 f3⟩
    by_cases c : (zka (List.range' 0 l.length) h).any (zfc l i) = true
    · rw [c, if_neg (by decide)]
      obtain ⟨a3, e3, f3⟩ := key (acc + 1)
      refine ⟨a3, ?_, f3⟩
      rw [e3]
      simp only [if_true]
      congr 3; omega
    · have c' : (zka (List.range' 0 l.length) h).any (zfc l i) = false := by simpa using c
      rw [c', if_pos (by decide)]
      obtain ⟨a3, e3, f3⟩ := key acc
      refine ⟨a3, ?_, f3⟩
      rw [e3]
      simp
/-! the reference's framed -/
theorem f8_picked_loop {b : xT} {c : List Nat} {v : Nat} (h31 : gI b 31 = nI c.length) (hc : ∀ t, t < c.length → gA b 59 t = nI (c.getD t 0)) (hc3 : c.length ≤ 3) (hm : ∀ x ∈ c, x < 64) (hv : v < 64) : ∀ r t (q : Bool) fuel, t + r = c.length → r < fuel → f_X8_isPicked_L4 (nI v) b fuel (bI q) (nI t) = some (bI (q || decide (v ∈ c.drop t))) := by
  intro r
  induction r with
  | zero =>
    intro t q fuel ht hf
    obtain ⟨fu, rfl⟩ : ∃ fu, fuel = fu + 1 := ⟨fuel - 1, by omega⟩
    rw [f_X8_isPicked_L4, h31, if_pos (nI_le (by omega) (by omega)), List.drop_eq_nil_of_le (by omega)]
    simp
  | succ r ih =>
    intro t q fuel ht hf
    obtain ⟨fu, rfl⟩ : ∃ fu, fuel = fu + 1 := ⟨fuel - 1, by omega⟩
    have htl : t < c.length := by omega
    have hcx := hm _ (z_get htl)
    have i1 := ih (t + 1) true fu (by omega) (by omega)
    have i0 := ih (t + 1) false fu (by omega) (by omega)
    rw [f_X8_isPicked_L4, h31, if_neg (nI_ge (by omega) (by omega)), if_pos (z_xin (by omega) (by decide)), nI_clamp (by omega), hc t htl, nI_1]
    cases q with
    | true =>
      rw [if_neg (by decide)]
      exact i1.trans (by simp)
    | false =>
      rw [if_pos (by decide)]
      by_cases e : c.getD t 0 = v
      · rw [if_pos (by rw [e])]
        refine i1.trans ?_
        rw [z_drop htl, e]; simp
      · rw [if_neg (fun z => e ((nI_eq (by omega) (by omega)).mp z))]
        refine i0.trans ?_
        have hiff : (v ∈ c.getD t 0 :: c.drop (t + 1)) ↔ v ∈ c.drop (t + 1) := ⟨fun z => (List.mem_cons.mp z).elim (fun z2 => absurd z2.symm e) id, List.mem_cons_of_mem _⟩
        rw [z_drop htl]
        simp only [hiff]
theorem zm1_bit {j i : Nat} (hj : j < 64) (hi : i < 64) : zbit (zm1 j) i = decide (i = j) := zone_bit j hj i hi
theorem z_or0 (x : Int64) : x ||| 0 = x := by simp
theorem f8_fr_in {b : xT} {k n N : Nat} {l c : List Nat} (v2 : Int32) (hk : k < 6) (hn : n ≤ 12) (hw : zlw n l) (hB : zlB b k l) (hst : zst b c) (hv : zcv l.length c) (hc : c ≠ []) (hN : 5000 ≤ N) : ∀ r i v fuel, i + r = l.length → r < fuel → ∃ w, f_X8_framed_L59 N (nI k) v2 (nI (zan (fun x => l.getD x 0) c)) (nI (zor (fun x => l.getD x 0) c)) b fuel v (nI i) = some w ∧ ∀ t, t < 64 → zbit w t = (zbit v t || (decide (i ≤ t) && (decide (t < l.length) && zfc l t c))) := by
  have hl := hw.1
  have hx6 := z_xin (n := 6) hk (by decide)
  have hp := z_pow n (by omega)
  have hzan := zan_lt hw hv hc
  obtain ⟨s1, s2⟩ := zst_ne hst hc
  intro r
  induction r with
  | zero =>
    intro i v fuel hi hf
    obtain ⟨fu, rfl⟩ : ∃ fu, fuel = fu + 1 := ⟨fuel - 1, by omega⟩
    refine ⟨v, ?_, fun t ht => ?_⟩
    · rw [f_X8_framed_L59, if_pos hx6, nI_clamp (by omega), hB.1, if_pos (nI_le (by omega) (by omega))]
    · by_cases q : i ≤ t
      · rw [decide_eq_false (show ¬ t < l.length by omega)]; simp
      · rw [decide_eq_false q]; simp
  | succ r ih =>
    intro i v fuel hi hf
    obtain ⟨fu, rfl⟩ : ∃ fu, fuel = fu + 1 := ⟨fuel - 1, by omega⟩
    have hil : i < l.length := by omega
    have hm := zlw_lt hw hn _ (z_get hil)
    have hpk := f8_picked_loop (v := i) s1 s2 (zcv_len hv) (fun x hx => by have := zcv_mem hv x hx; omega) (by omega) c.length 0 false N (by omega) (by have := zcv_len hv; omega)
    rw [List.drop_zero, Bool.false_or, show bI false = (0 : Int32) from rfl, show nI 0 = (0 : Int32) from rfl] at hpk
    rw [f_X8_framed_L59, if_pos hx6, nI_clamp (by omega), hB.1, if_neg (nI_ge (by omega) (by omega)), z_sar (by omega), f8_at hB hk hil hl, z_sbind, f8_canMake (by omega) (by omega), z_sbind, nI_1]
    unfold f_X8_isPicked
    rw [hpk, z_sbind, if_pos (bI_g _), z_sbind, z_sbind, z_or0]
    have split1 : ∀ t, (decide (i ≤ t) && (decide (t < l.length) && zfc l t c)) = ((decide (t = i) && zfc l i c) || (decide (i + 1 ≤ t) && (decide (t < l.length) && zfc l t c))) := fun t => by
      by_cases e : t = i
      · subst e
        rw [decide_eq_true (Nat.le_refl t), decide_eq_true hil, decide_eq_true (rfl : t = t), decide_eq_false (show ¬ t + 1 ≤ t by omega)]; simp
      · rw [decide_eq_false e]
        by_cases q : i ≤ t
        · rw [decide_eq_true q, decide_eq_true (show i + 1 ≤ t by omega)]; simp
        · rw [decide_eq_false q, decide_eq_false (show ¬ i + 1 ≤ t by omega)]; simp
    have keep : (zbit v i || !zfc l i c) = true → ∃ w, f_X8_framed_L59 N (nI k) v2 (nI (zan (fun x => l.getD x 0) c)) (nI (zor (fun x => l.getD x 0) c)) b fu v (nI (i + 1)) = some w ∧ ∀ t, t < 64 → zbit w t = (zbit v t || (decide (i ≤ t) && (decide (t < l.length) && zfc l t c))) := fun hq => by
      obtain ⟨w, w1, w2⟩ := ih (i + 1) v fu (by omega) (by omega)
      refine ⟨w, w1, fun t ht => ?_⟩
      rw [w2 t ht, split1 t]
      by_cases e : t = i
      · subst e
        revert hq
        cases zbit v t <;> cases zfc l t c <;> simp
      · rw [decide_eq_false e]; simp
    by_cases c1 : zbit v i = true
    · rw [if_pos c1, if_neg (by decide)]
      exact keep (by rw [c1]; rfl)
    · have c1' : zbit v i = false := by simpa using c1
      rw [if_neg c1, if_pos rfl]
      by_cases c2 : zcm (zan (fun x => l.getD x 0) c) (zor (fun x => l.getD x 0) c) (l.getD i 0) = true
      · rw [c2, if_neg (by decide)]
        by_cases c3 : i ∈ c
        · rw [decide_eq_true c3, if_neg (by decide)]
          exact keep (by unfold zfc; rw [decide_eq_true c3]; simp)
        · rw [decide_eq_false c3, if_pos (by decide)]
          obtain ⟨w, w1, w2⟩ := ih (i + 1) (v ||| zm1 i) fu (by omega) (by omega)
          refine ⟨w, w1, fun t ht => ?_⟩
          have hz : zfc l i c = true := by unfold zfc; rw [c2, decide_eq_false c3]; rfl
          rw [w2 t ht, split1 t, zbit_or, zm1_bit (by omega) ht, hz]
          cases zbit v t <;> cases decide (t = i) <;> simp
      · have c2' : zcm (zan (fun x => l.getD x 0) c) (zor (fun x => l.getD x 0) c) (l.getD i 0) = false := by simpa using c2
        rw [c2', if_pos (by decide)]
        exact keep (by unfold zfc; rw [c2']; simp)
theorem f8_framed_loop {k h n N : Nat} {l e : List Nat} (hk : k < 6) (hn : n ≤ 12) (hw : zlw n l) (h1 : 1 ≤ h) (h3 : h ≤ 3) (he : znx l.length h e = none) (hN : 5000 ≤ N) : ∀ cs c v b fuel, zst b c → zcv l.length c → c.length ≤ h → zcn l.length h c cs e → zlB b k l → cs.length < fuel → ∃ w b2, f_X8_framed_L33 N (nI k) (nI h) fuel v b = some (w, b2) ∧ (∀ t, t < 64 → zbit w t = (zbit v t || (decide (t < l.length) && cs.any (zfc l t)))) ∧ zgf b b2 := by
  have hl := hw.1
  intro cs
  induction cs with
  | nil =>
    intro c v b fuel hst hv hch hcn hB hf
    obtain ⟨fu, rfl⟩ : ∃ fu, fuel = fu + 1 := ⟨fuel - 1, by omega⟩
    have hce : c = e := hcn
    subst hce
    obtain ⟨b2, f2, ⟨g1, g2⟩ | ⟨c2, g1, -⟩⟩ := f8_goOn (N := N) hk hB.1 hl h1 h3 hst hv hch (by omega)
    · rw [f_X8_framed_L33, g2, z_sbind]
      simp only [↓reduceIte]
      exact ⟨v, b2, rfl, fun t ht => by simp, f2⟩
    · rw [he] at g1; cases g1
  | cons x cs ih =>
    intro c v b fuel hst hv hch hcn hB hf
    obtain ⟨fu, rfl⟩ : ∃ fu, fuel = fu + 1 := ⟨fuel - 1, by omega⟩
    rw [List.length_cons] at hf
    obtain ⟨hx, hcn⟩ := hcn
    obtain ⟨b2, f2, ⟨g1, -⟩ | ⟨c2, g1, g2, g3, g4, g5⟩⟩ := f8_goOn (N := N) hk hB.1 hl h1 h3 hst hv hch (by omega)
    · rw [hx] at g1; cases g1
    · rw [hx] at g1
      have e2 : x = c2 := Option.some.inj g1
      subst e2
      have hne := znx_ne hx
      have fB := zgf2_B (zgf2_of f2) hB
      obtain ⟨w, w1, w2⟩ := f8_fr_in (N := N) (nI h) hk hn hw fB g3 g4 hne hN l.length 0 v N (by omega) (by omega)
      rw [show nI 0 = (0 : Int32) from rfl] at w1
      rw [f_X8_framed_L33, g2, z_sbind]
      simp only [if_neg z10]
      rw [f8_common hk fB hl g3 g4 hne (by omega), z_sbind, f8_all hk fB hl g3 g4 hne (by omega), z_sbind, w1, z_sbind]
      obtain ⟨w3, b3, e3, t3, f3⟩ := ih x w b2 fu g3 g4 g5 hcn fB (by omega)
      refine ⟨w3, b3, e3, fun t ht => ?_, zgf_tr f2 f3⟩
      rw [t3 t ht, w2 t ht, List.any_cons, decide_eq_true (Nat.zero_le t)]
      cases zbit v t <;> cases decide (t < l.length) <;> cases zfc l t x <;> simp
theorem f8_sum2_loop {b : xT} (v : Int64) : ∀ r i acc fuel, i + r = 64 → r < fuel → f_X8_framed_L145 v b fuel (nI acc) (nI i) = some (nI (acc + zfl (fun j => zbit v j) i r)) := by
  intro r
  induction r with
  | zero =>
    intro i acc fuel hi hf
    obtain ⟨fu, rfl⟩ : ∃ fu, fuel = fu + 1 := ⟨fuel - 1, by omega⟩
    rw [f_X8_framed_L145, if_pos (show (64 : Int32) ≤ nI i from nI_le (a := 64) (by omega) (by omega)), zfl_0, Nat.add_zero]
  | succ r ih =>
    intro i acc fuel hi hf
    obtain ⟨fu, rfl⟩ : ∃ fu, fuel = fu + 1 := ⟨fuel - 1, by omega⟩
    rw [f_X8_framed_L145, if_neg (show ¬ (64 : Int32) ≤ nI i from nI_ge (b := 64) (by omega) (by decide)), z_sbind, z_sar32 (by omega), nI_add, nI_1, ih (i + 1) _ fu (by omega) (by omega), zfl_s, Nat.add_assoc]
theorem zfl_none {p : Nat → Bool} : ∀ r i, (∀ t, t < r → p (i + t) = false) → zfl p i r = 0
  | 0, _, _ => rfl
  | r + 1, i, h => by
    have h0 := h 0 (by omega)
    rw [Nat.add_zero] at h0
    rw [zfl_s, h0, zfl_none r (i + 1) (fun t ht => by
      have := h (t + 1) (by omega)
      rwa [show i + (t + 1) = i + 1 + t by omega] at this)]
    simp
theorem p_framed {N : Nat} (hN : 1000000 ≤ N) : xP_framed N zInv := by
  intro y1 y3 a b hI
  obtain ⟨n, kd, t, d, hb, ha, hB, ⟨ls, hls⟩, hlo, htx, hf, hca⟩ := id hI
  have hn := hb.2.1
  unfold f_X7_framed f_X8_framed
  rcases z_isL y1 with ⟨e1, e2⟩ | ⟨k, hk, rfl, e1, e2⟩
  · rw [e1, e2]; exact ⟨_, _, _, rfl, rfl, hI⟩
  rw [e1, e2]
  simp only [z_sbind, if_neg z10]
  have w3 := f8_in y3 1 3
  rw [show (1 : Int32).toInt64 = 1 from rfl, show (3 : Int32).toInt64 = 3 from rfl] at w3
  rw [f7_within, w3]
  simp only [z_sbind]
  by_cases c3 : y3 < 1 ∨ 3 < y3
  · rw [if_pos c3]; exact ⟨_, _, _, rfl, rfl, hI⟩
  rw [if_neg c3]
  obtain ⟨h, hh1, hh3, rfl⟩ := i32_rng (v := y3) 1 3 (fun z => c3 (Or.inl z)) (fun z => c3 (Or.inr z)) (by decide) (by decide)
  simp only [if_neg z10]
  obtain ⟨h1, h2, h3⟩ := hls k hk
  have hl := h1.1
  obtain ⟨a2, u0, u1⟩ := f7_framed_loop (N := N) hb hk h1 hh1 hh3 (by omega) (ls k).length 0 0 a N ha h2 (by omega) (by omega)
  obtain ⟨b1, q0, q1, q2⟩ := f8_begin b
  obtain ⟨e, hcn, hce⟩ := zcn_all (len := (ls k).length) hh1
  have hklen := zka_len (xs := List.range' 0 (ls k).length) (h := h) (by rw [List.length_range']; exact hl)
  obtain ⟨w, b2, r0, r1, r2⟩ := f8_framed_loop (N := N) hk hn h1 hh1 hh3 hce (by omega) _ [] 0 b1 N q1 (by trivial) (by simp) hcn (zgf2_B (zgf2_of q2) h3) (by omega)
  have hsum := f8_sum2_loop (b := b2) w 64 0 0 N (by omega) (by omega)
  have hw1 : zfl (fun j => zbit w j) 0 64 = zfl (fun j => (zka (List.range' 0 (ls k).length) h).any (zfc (ls k) j)) 0 (ls k).length := by
    rw [show 64 = (ls k).length + (64 - (ls k).length) by omega, zfl_add, zfl_none (64 - (ls k).length) (0 + (ls k).length) (fun t ht => by
      rw [r1 _ (by omega), zbit_0, decide_eq_false (show ¬ 0 + (ls k).length + t < (ls k).length by omega)]; rfl), Nat.add_zero]
    refine zfl_eq _ _ _ (fun t ht => ?_)
    rw [r1 _ (by omega), zbit_0, decide_eq_true (show 0 + t < (ls k).length by omega)]
    simp
  rw [show nI 0 = (0 : Int32) from rfl, Nat.zero_add] at u0 hsum
  rw [u0, q0]
  simp only [z_sbind]
  rw [r0]
  simp only [z_sbind]
  rw [hsum, z_sbind, hw1]
  exact ⟨_, _, _, rfl, rfl, zInv_cov hI u1 (zgf2_of (zgf_tr q2 r2))⟩
