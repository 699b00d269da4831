/-! join -/
theorem f7_join_loop {k : Nat} {l : List Nat} (v1 : Int32) (hl : l.length ≤ 64) (hlt : ∀ x ∈ l, x < 4096) (hk : k < 6) : ∀ r i acc a fuel, zlA a k l → zlA a 6 acc → acc.length ≤ 64 → i + r = l.length → r < fuel → ∃ a2, f_X7_join_L41 v1 (nI k) fuel (nI i) a = some (if (zfo acc (l.drop i)).length ≤ 64 then .inl a2 else .inr a2) ∧ ((zfo acc (l.drop i)).length ≤ 64 → zlA a2 6 (zfo acc (l.drop i))) ∧ zf6 a a2 := by
  have hx6 := z_xin (n := 6) hk (by decide)
  intro r
  induction r with
  | zero =>
    intro i acc a fuel h1 h2 hac hi hf
    obtain ⟨fu, rfl⟩ : ∃ fu, fuel = fu + 1 := ⟨fuel - 1, by omega⟩
    rw [List.drop_eq_nil_of_le (by omega)]
    refine ⟨a, ?_, fun _ => h2, zf6_refl a⟩
    rw [f_X7_join_L41]
    simp only [if_pos hx6]
    rw [nI_clamp (by omega), h1.1, if_pos (nI_le (by omega) (by omega)), if_pos (show (zfo acc []).length ≤ 64 from hac)]
  | succ r ih =>
    intro i acc a fuel h1 h2 hac hi hf
    obtain ⟨fu, rfl⟩ : ∃ fu, fuel = fu + 1 := ⟨fuel - 1, by omega⟩
    have hil : i < l.length := by omega
    have hx64 := z_xin (k := i) (n := 64) (by omega) (by decide)
    have hm := hlt _ (z_get hil)
    rw [z_drop hil, f_X7_join_L41]
    simp only [if_pos hx6, if_pos hx64]
    rw [nI_clamp (by omega), nI_clamp (by omega), h1.1, if_neg (nI_ge (by omega) (by omega)), h1.2.1 i hil, nI_1]
    rw [show zfo acc (l.getD i 0 :: l.drop (i + 1)) = zfo (zonce acc (l.getD i 0)) (l.drop (i + 1)) from rfl]
    by_cases c : (zonce acc (l.getD i 0)).length ≤ 64
    · obtain ⟨a2, e, g0, g1, g2, g3⟩ := f3_once h2 hac hm (by decide) c
      rw [e]
      simp only [Option.bind_some, if_neg z10]
      have f : zf6 a a2 := ⟨g1, g2, g3⟩
      obtain ⟨a3, e3, w0, w1⟩ := ih (i + 1) _ a2 fu (zf6_A hk f h1) g0 c (by omega) (by omega)
      exact ⟨a3, e3, w0, zf6_tr f w1⟩
    · have hge := zfo_ge (l.drop (i + 1)) (zonce acc (l.getD i 0))
      rw [f3_onceFull h2 hac hm (by omega)]
      simp only [Option.bind_some, ↓reduceIte]
      exact ⟨a, by rw [if_neg (by omega)], fun z => absurd z (by omega), zf6_refl a⟩
theorem f8_join_l1 {k N : Nat} {l : List Nat} (v1 v3 : Int32) (hl : l.length ≤ 64) (hlt : ∀ x ∈ l, x < 4096) (hk : k < 6) (hN : 5000 ≤ N) : ∀ r i acc b fuel, zlB b k l → zrow b acc → acc.length + r ≤ 4096 → (∀ x ∈ acc, x < 4096) → i + r = l.length → r < fuel → ∃ b2, f_X8_join_L33 N v1 (nI k) v3 fuel (nI i) b = some b2 ∧ zrow b2 (zfo acc (l.drop i)) ∧ zfr b b2 := by
  have hx6 := z_xin (n := 6) hk (by decide)
  intro r
  induction r with
  | zero =>
    intro i acc b fuel h1 h2 hac hab hi hf
    obtain ⟨fu, rfl⟩ : ∃ fu, fuel = fu + 1 := ⟨fuel - 1, by omega⟩
    rw [List.drop_eq_nil_of_le (by omega)]
    refine ⟨b, ?_, h2, zfr_refl b⟩
    rw [f_X8_join_L33]
    simp only [if_pos hx6]
    rw [nI_clamp (by omega), h1.1, if_pos (nI_le (by omega) (by omega))]
  | succ r ih =>
    intro i acc b fuel h1 h2 hac hab hi hf
    obtain ⟨fu, rfl⟩ : ∃ fu, fuel = fu + 1 := ⟨fuel - 1, by omega⟩
    have hil : i < l.length := by omega
    have hm := hlt _ (z_get hil)
    rw [z_drop hil, f_X8_join_L33]
    simp only [if_pos hx6]
    rw [nI_clamp (by omega), h1.1, if_neg (nI_ge (by omega) (by omega)), f8_at h1 hk hil hl, nI_1]
    simp only [Option.bind_some]
    obtain ⟨b2, e, g0, g1, g2⟩ := f8_come h2 (Or.inl (by omega)) (by omega) hab hm hN
    rw [e]
    simp only [Option.bind_some]
    have f : zfr b b2 := ⟨g1, g2⟩
    have hz := zonce_len acc (l.getD i 0)
    obtain ⟨b3, e3, w0, w1⟩ := ih (i + 1) _ b2 fu (zfr_B f h1) g0 (by omega) (fun x hx => (zonce_mem hx).elim (hab x) (fun z => z ▸ hm)) (by omega) (by omega)
    exact ⟨b3, e3, w0, zfr_tr f w1⟩
theorem f8_join_l2 {k N : Nat} {l : List Nat} (v1 : Int32) (hl : l.length ≤ 64) (hlt : ∀ x ∈ l, x < 4096) (hk : k < 6) (hN : 5000 ≤ N) : ∀ r i acc b fuel, zlB b k l → zrow b acc → acc.length + r ≤ 4096 → (∀ x ∈ acc, x < 4096) → i + r = l.length → r < fuel → ∃ b2, f_X8_join_L64 N v1 (nI k) fuel (nI i) b = some b2 ∧ zrow b2 (zfo acc (l.drop i)) ∧ zfr b b2 := by
  have hx6 := z_xin (n := 6) hk (by decide)
  intro r
  induction r with
  | zero =>
    intro i acc b fuel h1 h2 hac hab hi hf
    obtain ⟨fu, rfl⟩ : ∃ fu, fuel = fu + 1 := ⟨fuel - 1, by omega⟩
    rw [List.drop_eq_nil_of_le (by omega)]
    refine ⟨b, ?_, h2, zfr_refl b⟩
    rw [f_X8_join_L64]
    simp only [if_pos hx6]
    rw [nI_clamp (by omega), h1.1, if_pos (nI_le (by omega) (by omega))]
  | succ r ih =>
    intro i acc b fuel h1 h2 hac hab hi hf
    obtain ⟨fu, rfl⟩ : ∃ fu, fuel = fu + 1 := ⟨fuel - 1, by omega⟩
    have hil : i < l.length := by omega
    have hm := hlt _ (z_get hil)
    rw [z_drop hil, f_X8_join_L64]
    simp only [if_pos hx6]
    rw [nI_clamp (by omega), h1.1, if_neg (nI_ge (by omega) (by omega)), f8_at h1 hk hil hl, nI_1]
    simp only [Option.bind_some]
    obtain ⟨b2, e, g0, g1, g2⟩ := f8_come h2 (Or.inl (by omega)) (by omega) hab hm hN
    rw [e]
    simp only [Option.bind_some]
    have f : zfr b b2 := ⟨g1, g2⟩
    have hz := zonce_len acc (l.getD i 0)
    obtain ⟨b3, e3, w0, w1⟩ := ih (i + 1) _ b2 fu (zfr_B f h1) g0 (by omega) (fun x hx => (zonce_mem hx).elim (hab x) (fun z => z ▸ hm)) (by omega) (by omega)
    exact ⟨b3, e3, w0, zfr_tr f w1⟩
theorem zfr_11 (b : xT) (v : Int32) : zfr b (sI b 11 v) := ⟨fun j hj => by rw [gI_sI, if_neg hj], fun c j hc => rfl⟩
theorem zrow_0 (b : xT) : zrow (sI b 11 0) [] := ⟨rfl, fun i hi => absurd hi (Nat.not_lt_zero i)⟩
theorem p_join {N : Nat} (hN : 5000 ≤ N) : xP_join N zInv := by
  intro y1 y2 y3 a b hI
  obtain ⟨n, kd, t, d, hb, ha, hB, ⟨ls, hls⟩, hlo, htx, hf, hca⟩ := id hI
  unfold f_X7_join f_X8_join
  rcases z_isL y1 with ⟨e1, e2⟩ | ⟨k1, hk1, rfl, e1, e2⟩
  · rw [e1, e2]; exact ⟨_, _, _, rfl, rfl, hI⟩
  rw [e1, e2]
  simp only [Option.bind_some, if_neg z10]
  rcases z_isL y2 with ⟨e3, e4⟩ | ⟨k2, hk2, rfl, e3, e4⟩
  · rw [e3, e4]; exact ⟨_, _, _, rfl, rfl, hI⟩
  rw [e3, e4]
  simp only [Option.bind_some, if_neg z10]
  rcases z_isL y3 with ⟨e5, e6⟩ | ⟨k3, hk3, rfl, e5, e6⟩
  · rw [e5, e6]; exact ⟨_, _, _, rfl, rfl, hI⟩
  rw [e5, e6]
  simp only [Option.bind_some, if_neg z10]
  have hn := hb.2.1
  obtain ⟨w2, hA2, hB2⟩ := hls k2 hk2
  obtain ⟨w3, hA3, hB3⟩ := hls k3 hk3
  have l2 := w2.1
  have l3 := w3.1
  rw [if_pos (z_xin hk2 (by decide)), nI_clamp (by omega)]
  obtain ⟨a1, e, c0, c1, c2, c3⟩ := f3_copy (k0 := 6) hA2 l2 (by decide) (by omega)
  have f1 : zf6 a a1 := ⟨c1, c2, c3⟩
  obtain ⟨a2, u0, u1, u2⟩ := f7_join_loop (nI k1) l3 (zlw_lt w3 hn) hk3 (ls k3).length 0 (ls k2) a1 N (zf6_A hk3 f1 hA3) c0 l2 (by omega) (by omega)
  obtain ⟨b1, v0, v1, v2⟩ := f8_join_l1 (nI k1) (nI k3) l2 (zlw_lt w2 hn) hk2 hN (ls k2).length 0 [] (sI b 11 0) N (zfr_B (zfr_11 b 0) hB2) (zrow_0 b) (by simp; omega) (fun x hx => absurd hx List.not_mem_nil) (by omega) (by omega)
  rw [List.drop_zero, zfo_new _ _ (by simpa using w2.2.1), List.nil_append] at v1
  have f2 := zfr_tr (zfr_11 b 0) v2
  obtain ⟨b2, s0, s1, s2⟩ := f8_join_l2 (nI k1) l3 (zlw_lt w3 hn) hk3 hN (ls k3).length 0 (ls k2) b1 N (zfr_B f2 hB3) v1 (by omega) (zlw_lt w2 hn) (by omega) (by omega)
  rw [List.drop_zero] at u0 u1 s1
  rw [show nI 0 = (0 : Int32) from rfl] at u0 v0 s0
  rw [e]
  simp only [Option.bind_some]
  rw [u0, v0]
  simp only [Option.bind_some]
  rw [s0]
  simp only [Option.bind_some]
  have f3 := zf6_tr f1 u2
  have f4 := zfr_tr f2 s2
  have hle := zfo_le (ls k3) (ls k2)
  by_cases c : (zfo (ls k2) (ls k3)).length ≤ 64
  · rw [if_pos c]
    have hw : zlw n (zfo (ls k2) (ls k3)) := ⟨c, zfo_nd _ _ w2.2.1, fun m hm => (zfo_mem _ _ m hm).elim (w2.2.2 m) (w3.2.2 m)⟩
    obtain ⟨r, a3, b3, q1, q2, q3⟩ := z_fin hb ha hB hls hlo htx hf hca hk1 hw (u1 c) f3 s1 f4 hN
    simp only [Sum.elim_inl]
    rw [q1, q2]
    exact ⟨_, _, _, rfl, rfl, q3⟩
  · rw [if_neg c, f8_keepFull (nI k1) s1 (by omega) (by omega)]
    exact ⟨_, _, _, rfl, rfl, zInv_fr hI f3 f4⟩
