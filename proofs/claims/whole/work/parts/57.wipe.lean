/-! a list that is emptied -/
theorem f_fill {k : Nat} {v : Int64} : ∀ r i a fuel, i + r = 64 → r < fuel → ∃ a2, f_J7_fill_d0a16_L6 k v 64 fuel (nI i) a = some a2 ∧ (∀ j, gI a2 j = gI a j) ∧ (∀ c j, gA a2 c j = gA a c j) ∧ (∀ c j, c ≠ 37 + k → gB a2 c j = gB a c j) ∧ (∀ j, j < i → gB a2 (37 + k) j = gB a (37 + k) j) ∧ ∀ j, i ≤ j → j < 64 → gB a2 (37 + k) j = v := by
  intro r
  induction r with
  | zero =>
    intro i a fuel hi hf
    obtain ⟨fu, rfl⟩ : ∃ fu, fuel = fu + 1 := ⟨fuel - 1, by omega⟩
    refine ⟨a, ?_, fun _ => rfl, fun _ _ => rfl, fun _ _ _ => rfl, fun _ _ => rfl, fun j h1 h2 => by omega⟩
    rw [f_J7_fill_d0a16_L6, if_pos (show (64 : Int32) ≤ nI i from nI_le (a := 64) (by omega) (by omega))]
  | succ r ih =>
    intro i a fuel hi hf
    obtain ⟨fu, rfl⟩ : ∃ fu, fuel = fu + 1 := ⟨fuel - 1, by omega⟩
    rw [f_J7_fill_d0a16_L6, if_neg (show ¬ (64 : Int32) ≤ nI i from nI_ge (b := 64) (by omega) (by decide)), if_pos (z_xin (by omega) (by decide)), nI_clamp (by omega), nI_1]
    obtain ⟨a2, e, h1, h2, h3, h4, h5⟩ := ih (i + 1) (sB a (37 + k) (vp_updL (gB a (37 + k)) i v)) fu (by omega) (by omega)
    refine ⟨a2, e, h1, h2, fun c j hc => ?_, fun j hj => ?_, fun j hj hj2 => ?_⟩
    · rw [h3 c j hc, gB_sB, if_neg hc]
    · rw [h4 j (by omega), gB_sB, if_pos rfl, updL_at, if_neg (by omega)]
    · by_cases e2 : j = i
      · subst e2
        rw [h4 j (by omega), gB_sB, if_pos rfl, updL_at, if_pos rfl]
      · exact h5 j (by omega) hj2
theorem f3_wipe {k N : Nat} (a : xT) (hN : 70 ≤ N) : ∃ a2, f_X3_wipe N k a = some a2 ∧ (∀ j, gI a2 j = if j = 23 + k then 0 else gI a j) ∧ (∀ c j, gA a2 c j = gA a c j) ∧ (∀ c j, c ≠ 37 + k → gB a2 c j = gB a c j) ∧ ∀ j, j < 64 → gB a2 (37 + k) j = 0 := by
  obtain ⟨a2, e, h1, h2, h3, -, h5⟩ := f_fill (k := k) (v := 0) 64 0 (sI a (23 + k) 0) N (by omega) (by omega)
  refine ⟨a2, ?_, fun j => ?_, h2, h3, fun j hj => h5 j (by omega) hj⟩
  · unfold f_X3_wipe f_J7_fill_d0a16
    rw [show (0 : Int32) = nI 0 from rfl] at *
    rw [e]
    rfl
  · rw [h1 j]; rfl
theorem zls_set {a2 b2 : xT} {n k : Nat} {ls : Nat → List Nat} {l2 : List Nat} (h1 : zlw n l2 ∧ zlA a2 k l2 ∧ zlB b2 k l2) (h2 : ∀ j, j < 6 → j ≠ k → zlw n (ls j) ∧ zlA a2 j (ls j) ∧ zlB b2 j (ls j)) : zls a2 b2 n := by
  refine ⟨fun j => if j = k then l2 else ls j, fun j hj => ?_⟩
  by_cases e : j = k
  · subst e; simp only [if_pos rfl]; exact h1
  · simp only [if_neg e]; exact h2 j hj e
theorem zbit_0 (j : Nat) : zbit 0 j = false := by simp [zbit]
theorem zlA_nil {a : xT} {k : Nat} (h1 : gI a (23 + k) = 0) (h2 : ∀ j, j < 64 → gB a (37 + k) j = 0) : zlA a k [] := by
  refine ⟨h1, fun i hi => absurd hi (Nat.not_lt_zero i), fun m hm => ?_⟩
  rw [h2 (m / 64) (by omega), zbit_0]
  simp
theorem zlB_nil {b : xT} {k : Nat} (h1 : gA b 45 k = 0) : zlB b k [] := ⟨h1, fun i hi => absurd hi (Nat.not_lt_zero i)⟩
theorem zlw_nil (n : Nat) : zlw n [] := ⟨by decide, List.nodup_nil, fun m hm => absurd hm List.not_mem_nil⟩
theorem p_clear {N : Nat} (hN : 70 ≤ N) : xP_clear N zInv := by
  intro y1 a b hI
  obtain ⟨n, kd, t, d, hb, ha, hB, ⟨ls, hls⟩, hlo, htx, hf, hca⟩ := id hI
  unfold f_X7_clear f_X8_clear
  rcases z_isL y1 with ⟨e1, e2⟩ | ⟨k, hk, rfl, e1, e2⟩
  · rw [e1, e2]; exact ⟨_, _, _, rfl, rfl, hI⟩
  · rw [e1, e2]
    obtain ⟨h1, h2, h3⟩ := hls k hk
    have hx6 := z_xin (n := 6) hk (by decide)
    simp only [Option.bind_some, if_neg z10, if_pos hx6]
    rw [nI_clamp (by omega)]
    obtain ⟨a2, e, g1, g2, g3, g4⟩ := f3_wipe (k := k) a hN
    rw [e, h2.1, h3.1]
    refine ⟨_, _, _, rfl, rfl, n, kd, t, d, hb, ?_, hB, ?_, ?_, ?_, ?_, ?_⟩
    · exact zis_keep ha (fun j hj => by rw [g1 j, if_neg (by omega)])
    · refine zls_set (k := k) (ls := ls) ⟨zlw_nil n, zlA_nil (by rw [g1, if_pos rfl]) g4, zlB_nil (by rw [gA_sA, if_pos rfl, upd_at, if_pos rfl])⟩ (fun j hj hjk => ?_)
      obtain ⟨q1, q2, q3⟩ := hls j hj
      refine ⟨q1, zlA_keep q2 (by rw [g1, if_neg (by omega)]) (fun i => g2 _ _) (fun i => g3 _ _ (by omega)), zlB_keep q3 ?_ (fun i => rfl)⟩
      rw [gA_sA, if_pos rfl, upd_at, if_neg hjk]
    · exact zlo_keep hlo (fun i => g2 _ _) (fun i => rfl)
    · exact ztx_keep htx (by rw [g1, if_neg (by omega)]) rfl (fun i => g2 _ _) (fun i => rfl)
    · rw [g1, if_neg (by omega)]; exact hf
    · exact zca_keep hca (by rw [g1, if_neg (by omega)]) (by rw [g1, if_neg (by omega)]) (by rw [g1, if_neg (by omega)]) (fun i => g2 _ _)
