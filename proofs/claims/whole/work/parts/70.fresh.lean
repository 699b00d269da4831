/-! lists made anew: what is kept, what comes of it -/
theorem z00 : (0 : Int32) = 0 := rfl
def zf6 (a a2 : xT) : Prop := (∀ j, j ≠ 29 → gI a2 j = gI a j) ∧ (∀ c j, c ≠ 36 → gA a2 c j = gA a c j) ∧ ∀ c j, c ≠ 43 → gB a2 c j = gB a c j
def zfr (b b2 : xT) : Prop := (∀ j, j ≠ 11 → gI b2 j = gI b j) ∧ ∀ c j, c ≠ 51 → gA b2 c j = gA b c j
theorem zf6_refl (a : xT) : zf6 a a := ⟨fun _ _ => rfl, fun _ _ _ => rfl, fun _ _ _ => rfl⟩
theorem zfr_refl (a : xT) : zfr a a := ⟨fun _ _ => rfl, fun _ _ _ => rfl⟩
theorem zf6_tr {a b c : xT} (h : zf6 a b) (g : zf6 b c) : zf6 a c := ⟨fun j hj => (g.1 j hj).trans (h.1 j hj), fun x j hx => (g.2.1 x j hx).trans (h.2.1 x j hx), fun x j hx => (g.2.2 x j hx).trans (h.2.2 x j hx)⟩
theorem zfr_tr {a b c : xT} (h : zfr a b) (g : zfr b c) : zfr a c := ⟨fun j hj => (g.1 j hj).trans (h.1 j hj), fun x j hx => (g.2 x j hx).trans (h.2 x j hx)⟩
theorem zf6_is {a a2 : xT} {n kd t d : Nat} (h : zf6 a a2) (g : zis a n kd t d) : zis a2 n kd t d := zis_keep g (fun j hj => h.1 j (by omega))
theorem zfr_is {a a2 : xT} {n kd t d : Nat} (h : zfr a a2) (g : zis a n kd t d) : zis a2 n kd t d := zis_keep g (fun j hj => h.1 j (by omega))
theorem zf6_A {a a2 : xT} {k : Nat} {l : List Nat} (hk : k < 6) (h : zf6 a a2) (g : zlA a k l) : zlA a2 k l := zlA_keep g (h.1 _ (by omega)) (fun i => h.2.1 _ _ (by omega)) (fun i => h.2.2 _ _ (by omega))
theorem zfr_B {b b2 : xT} {k : Nat} {l : List Nat} (h : zfr b b2) (g : zlB b k l) : zlB b2 k l := zlB_keep g (h.2 _ _ (by decide)) (fun i => h.2 _ _ (by decide))
theorem zInv_fr {a a2 b b2 : xT} (h : zInv a b) (f : zf6 a a2) (g : zfr b b2) : zInv a2 b2 := by
  obtain ⟨n, kd, t, d, hb, ha, hB, ⟨ls, hls⟩, hlo, htx, hf, hca⟩ := h
  refine ⟨n, kd, t, d, hb, zf6_is f ha, zfr_is g hB, ⟨ls, fun k hk => ⟨(hls k hk).1, zf6_A hk f (hls k hk).2.1, zfr_B g (hls k hk).2.2⟩⟩, zlo_keep hlo (fun i => f.2.1 _ _ (by decide)) (fun i => g.2 _ _ (by decide)), ztx_keep htx (f.1 _ (by decide)) (g.1 _ (by decide)) (fun i => f.2.1 _ _ (by decide)) (fun i => g.2 _ _ (by decide)), ?_, zca_keep hca (f.1 _ (by decide)) (f.1 _ (by decide)) (f.1 _ (by decide)) (fun i => f.2.1 _ _ (by decide))⟩
  rw [f.1 11 (by decide), g.1 15 (by decide)]; exact hf
theorem z_fin {a a1 b b1 : xT} {n kd t d k N : Nat} {ls : Nat → List Nat} {l : List Nat} (hb : zbd n kd t d) (ha : zis a n kd t d) (hB : zis b n kd t d) (hls : ∀ j, j < 6 → zlw n (ls j) ∧ zlA a j (ls j) ∧ zlB b j (ls j)) (hlo : zlo a b n) (htx : ztx a b) (hf : gI a 11 = gI b 15) (hca : zca a n kd t d) (hk : k < 6) (hw : zlw n l) (hA : zlA a1 6 l) (fA : zf6 a a1) (hr : zrow b1 l) (fB : zfr b b1) (hN : 5000 ≤ N) : ∃ r a2 b2, f_X7_becomesFresh (nI k) a1 = some (r, a2) ∧ f_X8_keep N (nI k) b1 = some (r, b2) ∧ zInv a2 b2 := by
  obtain ⟨a3, r0, r1, r2, r3, r4⟩ := f7_becomes hA hw.1 hk
  obtain ⟨b3, s0, s1, s2, s3, s4, s5⟩ := f8_keep hr hk hw.1 hN
  refine ⟨_, a3, b3, r0, s0, zInv_list hb ha hB hls hlo htx hf hca hk hw r1 s1 ?_ ?_ ?_ ?_ ?_ ?_ ?_⟩
  · intro j h5 h6; rw [r2 j h6, fA.1 j h5]
  · intro c j h5 h6; rw [r3 c j h6, fA.2.1 c j h5]
  · intro c j h5 h6; rw [r4 c j h6, fA.2.2 c j h5]
  · intro j h5; rw [s2, fB.1 j h5]
  · intro c j h5 h6 h7; rw [s3 c j h6 h7, fB.2 c j h5]
  · intro j h5; rw [s4 j h5, fB.2 45 j (by decide)]
  · intro j h5; rw [s5 j h5, fB.2 46 j (by decide)]
/-! marks that come once, one after the other -/
def zfo (acc xs : List Nat) : List Nat := xs.foldl zonce acc
theorem zonce_ge (l : List Nat) (m : Nat) : l.length ≤ (zonce l m).length := by
  unfold zonce
  split
  · exact Nat.le_refl _
  · simp
theorem zfo_ge : ∀ (xs acc : List Nat), acc.length ≤ (zfo acc xs).length
  | [], acc => Nat.le_refl _
  | x :: xs, acc => Nat.le_trans (zonce_ge acc x) (zfo_ge xs (zonce acc x))
theorem zfo_le : ∀ (xs acc : List Nat), (zfo acc xs).length ≤ acc.length + xs.length
  | [], acc => Nat.le_refl _
  | x :: xs, acc => by
    have h1 := zfo_le xs (zonce acc x)
    have h2 := zonce_len acc x
    show (zfo (zonce acc x) xs).length ≤ _
    rw [List.length_cons]
    omega
theorem zfo_nd : ∀ (xs acc : List Nat), acc.Nodup → (zfo acc xs).Nodup
  | [], acc, h => h
  | x :: xs, acc, h => zfo_nd xs (zonce acc x) (zonce_nd h)
theorem zfo_mem : ∀ (xs acc : List Nat) (y : Nat), y ∈ zfo acc xs → y ∈ acc ∨ y ∈ xs
  | [], acc, y, h => Or.inl h
  | x :: xs, acc, y, h => by
    rcases zfo_mem xs (zonce acc x) y h with z | z
    · rcases zonce_mem z with z | z
      · exact Or.inl z
      · exact Or.inr (z ▸ List.mem_cons_self)
    · exact Or.inr (List.mem_cons_of_mem _ z)
theorem zfo_new : ∀ (xs acc : List Nat), (acc ++ xs).Nodup → zfo acc xs = acc ++ xs
  | [], acc, h => by simp [zfo]
  | x :: xs, acc, h => by
    have hx : x ∉ acc := fun z => by
      have := (List.nodup_append.mp h).2.2 x z x List.mem_cons_self
      exact this rfl
    have e : zonce acc x = acc ++ [x] := if_neg hx
    show zfo (zonce acc x) xs = _
    rw [e, zfo_new xs (acc ++ [x]) (by simpa using h)]
    simp
theorem zlw_lt {n : Nat} {l : List Nat} (h : zlw n l) (hn : n ≤ 12) : ∀ x ∈ l, x < 4096 := fun x hx => by
  have h1 := h.2.2 x hx
  have h2 := z_pow n (by omega)
  omega
theorem z_get {l : List Nat} {i : Nat} (h : i < l.length) : l.getD i 0 ∈ l := by simp [h]
