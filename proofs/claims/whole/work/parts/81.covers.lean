/-! the class's search for sets that are just a target -/
def zm1 (x : Nat) : Int64 := (1 : Int64) <<< ((nI x).toInt64 &&& 63)
def zmask (c : List Nat) : Int64 := c.foldl (fun acc x => acc ||| zm1 x) 0
def zand (H : List (List Nat)) : Int64 := H.foldl (fun acc c => acc &&& zmask c) (-1)
def zor (g : Nat → Nat) (c : List Nat) : Nat := c.foldl (fun acc x => acc ||| g x) 0
def zok (g : Nat → Nat) (tg : Nat) (c : List Nat) : Bool := decide (zor g c = tg)
def zcov (a : xT) (H : List (List Nat)) : Prop := gI a 19 = nI H.length ∧ gJ a 0 = zand H ∧ ((H = [] ∧ gI a 20 = -1) ∨ ∃ c T, H = c :: T ∧ 0 < c.length ∧ c.length ≤ 3 ∧ gI a 20 = nI c.length ∧ ∀ t, t < c.length → gA a 22 t = nI (c.getD t 0))
def zpt (a : xT) (F : List Nat) (g : Nat → Nat) (tg : Nat) : Prop := gI a 17 = nI F.length ∧ gI a 18 = nI tg ∧ ∀ i, i < F.length → gA a 20 i = nI (g (F.getD i 0)) ∧ gA a 21 i = nI (F.getD i 0)
def zcvf (a a2 : xT) : Prop := (∀ j, j ≠ 19 → j ≠ 20 → gI a2 j = gI a j) ∧ (∀ c j, c ≠ 22 → gA a2 c j = gA a c j) ∧ ∀ c j, gB a2 c j = gB a c j
theorem zcvf_refl (a : xT) : zcvf a a := ⟨fun _ _ _ => rfl, fun _ _ _ => rfl, fun _ _ => rfl⟩
theorem zcvf_tr {a b c : xT} (h : zcvf a b) (g : zcvf b c) : zcvf a c := ⟨fun j hj hj2 => (g.1 j hj hj2).trans (h.1 j hj hj2), fun x j hx => (g.2.1 x j hx).trans (h.2.1 x j hx), fun x j => (g.2.2 x j).trans (h.2.2 x j)⟩
theorem zpt_keep {a a2 : xT} {F : List Nat} {g : Nat → Nat} {tg : Nat} (h : zpt a F g tg) (f : zcvf a a2) : zpt a2 F g tg := ⟨(f.1 17 (by decide) (by decide)).trans h.1, (f.1 18 (by decide) (by decide)).trans h.2.1, fun i hi => ⟨(f.2.1 20 i (by decide)).trans (h.2.2 i hi).1, (f.2.1 21 i (by decide)).trans (h.2.2 i hi).2⟩⟩
theorem zand_app (H : List (List Nat)) (c : List Nat) : zand (H ++ [c]) = zand H &&& zmask c := by
  unfold zand
  rw [List.foldl_append]
  rfl
theorem z_x13 : xin 1 3 := z_xin (k := 1) (n := 3) (by decide) (by decide)
theorem z_x23 : xin 2 3 := z_xin (k := 2) (n := 3) (by decide) (by decide)
theorem z_c1 : Int32.toNatClampNeg 1 = 1 := by decide
theorem z_c2 : Int32.toNatClampNeg 2 = 2 := by decide
theorem f0_tally {a : xT} {F : List Nat} {g : Nat → Nat} {tg i j l : Nat} {H : List (List Nat)} {c : List Nat} (hp : zpt a F g tg) (hF : F.length ≤ 64) (hH : zcov a H) (hi : i < F.length) (hj : j < F.length) (hl : l < F.length) (hc0 : 0 < c.length) (hc3 : c.length ≤ 3) (hm : (zm1 (F.getD i 0) ||| zm1 (F.getD j 0)) ||| zm1 (F.getD l 0) = zmask c) (hg : ∀ t, t < c.length → c.getD t 0 = [F.getD i 0, F.getD j 0, F.getD l 0].getD t 0) : ∃ a2, f_X0_tally (nI c.length) (nI i) (nI j) (nI l) a = some a2 ∧ zcov a2 (H ++ [c]) ∧ zcvf a a2 := by
  have hxi := z_xin (k := i) (n := 64) (by omega) (by decide)
  have hxj := z_xin (k := j) (n := 64) (by omega) (by decide)
  have hxl := z_xin (k := l) (n := 64) (by omega) (by decide)
  unfold zm1 at hm
  unfold f_X0_tally
  simp only [if_pos hxi, if_pos hxj, if_pos hxl, if_pos z_x03, if_pos z_x13, if_pos z_x23, nI_clamp (show i < 2 ^ 31 by omega), nI_clamp (show j < 2 ^ 31 by omega), nI_clamp (show l < 2 ^ 31 by omega), z_clamp0, z_c1, z_c2, (hp.2.2 i hi).2, (hp.2.2 j hj).2, (hp.2.2 l hl).2, hm, hH.1, hH.2.1, nI_1]
  rcases hH.2.2 with ⟨e, e20⟩ | ⟨c0, T, e, e1, e2, e20, e3⟩
  · rw [if_pos e20]
    refine ⟨_, rfl, ⟨?_, ?_, Or.inr ⟨c, [], ?_, hc0, hc3, ?_, fun t ht => ?_⟩⟩, fun q h1 h2 => ?_, fun q x hq => ?_, fun q x => rfl⟩
    · rw [List.length_append, List.length_singleton]; rfl
    · rw [zand_app]; rfl
    · rw [e]; rfl
    · rfl
    · rw [gA_sA, if_pos rfl, upd_at, upd_at, upd_at, hg t ht]
      rcases (show t = 0 ∨ t = 1 ∨ t = 2 by omega) with rfl | rfl | rfl <;> rfl
    · rw [gI_sA, gI_sA, gI_sA, gI_sI, if_neg h2, gI_sJ, gI_sI, if_neg h1]
    · rw [gA_sA, if_neg hq, gA_sA, if_neg hq, gA_sA, if_neg hq]; rfl
  · rw [if_neg (by rw [e20]; exact nI_nneg (by omega))]
    refine ⟨_, rfl, ⟨?_, ?_, Or.inr ⟨c0, T ++ [c], ?_, e1, e2, e20, e3⟩⟩, fun q h1 h2 => ?_, fun q x hq => rfl, fun q x => rfl⟩
    · rw [List.length_append, List.length_singleton]; rfl
    · rw [zand_app]; rfl
    · rw [e]; rfl
    · rw [gI_sJ, gI_sI, if_neg h1]
theorem zok_step {g : Nat → Nat} {tg : Nat} {H R : List (List Nat)} {c : List Nat} : H ++ (c :: R).filter (zok g tg) = (if zor g c = tg then H ++ [c] else H) ++ R.filter (zok g tg) := by
  rw [List.filter_cons]
  unfold zok
  by_cases h : zor g c = tg
  · rw [if_pos (by simp [h]), if_pos h]; simp
  · rw [if_neg (by simp [h]), if_neg h]
theorem f0_s1 {F : List Nat} {g : Nat → Nat} {tg : Nat} (v1 : Int32) (hF : F.length ≤ 64) (hg : ∀ x ∈ F, g x < 4096) (ht : tg < 4096) : ∀ r i H a fuel, zpt a F g tg → zcov a H → i + r = F.length → r < fuel → ∃ a2, f_X0_search_L19 v1 fuel (nI i) a = some a2 ∧ zcov a2 (H ++ ((F.drop i).map (fun x => [x])).filter (zok g tg)) ∧ zcvf a a2 := by
  intro r
  induction r with
  | zero =>
    intro i H a fuel hp hH hi hf
    obtain ⟨fu, rfl⟩ : ∃ fu, fuel = fu + 1 := ⟨fuel - 1, by omega⟩
    refine ⟨a, ?_, ?_, zcvf_refl a⟩
    · rw [f_X0_search_L19, hp.1, if_pos (nI_le (by omega) (by omega))]
    · rw [List.drop_eq_nil_of_le (by omega)]; simpa using hH
  | succ r ih =>
    intro i H a fuel hp hH hi hf
    obtain ⟨fu, rfl⟩ : ∃ fu, fuel = fu + 1 := ⟨fuel - 1, by omega⟩
    have hil : i < F.length := by omega
    have hgi := hg _ (z_get hil)
    have hz : zor g [F.getD i 0] = g (F.getD i 0) := Nat.zero_or _
    rw [f_X0_search_L19, hp.1, if_neg (nI_ge (by omega) (by omega)), if_pos (z_xin (by omega) (by decide)), nI_clamp (by omega), (hp.2.2 i hil).1, hp.2.1, nI_1, z_drop hil, List.map_cons, zok_step, hz]
    by_cases c : g (F.getD i 0) = tg
    · rw [if_pos (by rw [c]), if_pos c]
      obtain ⟨a2, e, h1, h2⟩ := f0_tally (c := [F.getD i 0]) hp hF hH hil hil hil (by simp) (by simp) (by simp [zmask]) (fun t h => by
        have : t = 0 := by simp at h; omega
        subst this; rfl)
      rw [show nI [F.getD i 0].length = (1 : Int32) from rfl] at e
      rw [e, z_sbind]
      obtain ⟨a3, e3, h3, h4⟩ := ih (i + 1) _ a2 fu (zpt_keep hp h2) h1 (by omega) (by omega)
      exact ⟨a3, e3, h3, zcvf_tr h2 h4⟩
    · rw [if_neg (fun z => c ((nI_eq (by omega) (by omega)).mp z)), if_neg c]
      exact ih (i + 1) _ a fu hp hH (by omega) (by omega)
theorem f0_p14 {F : List Nat} {g : Nat → Nat} {tg i : Nat} (hF : F.length ≤ 64) (hg : ∀ x ∈ F, g x < 4096) (ht : tg < 4096) (hi : i < F.length) : ∀ r j H a fuel, zpt a F g tg → zcov a H → j + r = F.length → r < fuel → ∃ a2, f_X0_searchPairs_L14 (nI i) fuel (nI j) a = some a2 ∧ zcov a2 (H ++ ((F.drop j).map (fun y => [F.getD i 0, y])).filter (zok g tg)) ∧ zcvf a a2 := by
  have hgi := hg _ (z_get hi)
  intro r
  induction r with
  | zero =>
    intro j H a fuel hp hH hj hf
    obtain ⟨fu, rfl⟩ : ∃ fu, fuel = fu + 1 := ⟨fuel - 1, by omega⟩
    refine ⟨a, ?_, ?_, zcvf_refl a⟩
    · rw [f_X0_searchPairs_L14, hp.1, if_pos (nI_le (by omega) (by omega))]
    · rw [List.drop_eq_nil_of_le (by omega)]; simpa using hH
  | succ r ih =>
    intro j H a fuel hp hH hj hf
    obtain ⟨fu, rfl⟩ : ∃ fu, fuel = fu + 1 := ⟨fuel - 1, by omega⟩
    have hjl : j < F.length := by omega
    have hgj := hg _ (z_get hjl)
    have hlt : g (F.getD i 0) ||| g (F.getD j 0) < 4096 := Nat.or_lt_two_pow (n := 12) hgi hgj
    have hz : zor g [F.getD i 0, F.getD j 0] = g (F.getD i 0) ||| g (F.getD j 0) := by simp [zor]
    rw [f_X0_searchPairs_L14, hp.1, if_neg (nI_ge (by omega) (by omega)), if_pos (z_xin (by omega) (by decide)), if_pos (z_xin (by omega) (by decide)), nI_clamp (n := i) (by omega), nI_clamp (n := j) (by omega), (hp.2.2 i hi).1, (hp.2.2 j hjl).1, hp.2.1, nI_1, zI_or, z_drop hjl, List.map_cons, zok_step, hz]
    by_cases c : g (F.getD i 0) ||| g (F.getD j 0) = tg
    · rw [if_pos (by rw [c]), if_pos c]
      obtain ⟨a2, e, h1, h2⟩ := f0_tally (c := [F.getD i 0, F.getD j 0]) hp hF hH hi hjl hjl (by simp) (by simp) (by simp [zmask, Int64.or_assoc]) (fun t h => by
        have : t = 0 ∨ t = 1 := by simp at h; omega
        rcases this with rfl | rfl <;> rfl)
      rw [show nI [F.getD i 0, F.getD j 0].length = (2 : Int32) from rfl] at e
      rw [e, z_sbind]
      obtain ⟨a3, e3, h3, h4⟩ := ih (j + 1) _ a2 fu (zpt_keep hp h2) h1 (by omega) (by omega)
      exact ⟨a3, e3, h3, zcvf_tr h2 h4⟩
    · rw [if_neg (fun z => c ((nI_eq (by omega) (by omega)).mp z)), if_neg c]
      exact ih (j + 1) _ a fu hp hH (by omega) (by omega)
theorem f0_p2 {F : List Nat} {g : Nat → Nat} {tg N : Nat} (hF : F.length ≤ 64) (hg : ∀ x ∈ F, g x < 4096) (ht : tg < 4096) (hN : 5000 ≤ N) : ∀ r i H a fuel, zpt a F g tg → zcov a H → i + r = F.length → r < fuel → ∃ a2, f_X0_searchPairs_L2 N fuel (nI i) a = some a2 ∧ zcov a2 (H ++ (zk2 (F.drop i)).filter (zok g tg)) ∧ zcvf a a2 := by
  intro r
  induction r with
  | zero =>
    intro i H a fuel hp hH hi hf
    obtain ⟨fu, rfl⟩ : ∃ fu, fuel = fu + 1 := ⟨fuel - 1, by omega⟩
    refine ⟨a, ?_, ?_, zcvf_refl a⟩
    · rw [f_X0_searchPairs_L2, hp.1, if_pos (nI_le (by omega) (by omega))]
    · rw [List.drop_eq_nil_of_le (by omega)]; simpa [zk2] using hH
  | succ r ih =>
    intro i H a fuel hp hH hi hf
    obtain ⟨fu, rfl⟩ : ∃ fu, fuel = fu + 1 := ⟨fuel - 1, by omega⟩
    have hil : i < F.length := by omega
    rw [f_X0_searchPairs_L2, hp.1, if_neg (nI_ge (by omega) (by omega)), nI_1, z_drop hil, zk2, List.filter_append, ← List.append_assoc]
    obtain ⟨a2, e, h1, h2⟩ := f0_p14 hF hg ht hil r (i + 1) H a N hp hH (by omega) (by omega)
    rw [e, z_sbind]
    obtain ⟨a3, e3, h3, h4⟩ := ih (i + 1) _ a2 fu (zpt_keep hp h2) h1 (by omega) (by omega)
    exact ⟨a3, e3, h3, zcvf_tr h2 h4⟩
theorem f0_t41 {F : List Nat} {g : Nat → Nat} {tg i j : Nat} (hF : F.length ≤ 64) (hg : ∀ x ∈ F, g x < 4096) (ht : tg < 4096) (hi : i < F.length) (hj : j < F.length) : ∀ r l H a fuel, zpt a F g tg → zcov a H → l + r = F.length → r < fuel → ∃ a2, f_X0_searchTriples_L41 (nI i) (nI j) (nI (g (F.getD i 0) ||| g (F.getD j 0))) fuel (nI l) a = some a2 ∧ zcov a2 (H ++ ((F.drop l).map (fun y => [F.getD i 0, F.getD j 0, y])).filter (zok g tg)) ∧ zcvf a a2 := by
  have hgi := hg _ (z_get hi)
  have hgj := hg _ (z_get hj)
  intro r
  induction r with
  | zero =>
    intro l H a fuel hp hH hl hf
    obtain ⟨fu, rfl⟩ : ∃ fu, fuel = fu + 1 := ⟨fuel - 1, by omega⟩
    refine ⟨a, ?_, ?_, zcvf_refl a⟩
    · rw [f_X0_searchTriples_L41, hp.1, if_pos (nI_le (by omega) (by omega))]
    · rw [List.drop_eq_nil_of_le (by omega)]; simpa using hH
  | succ r ih =>
    intro l H a fuel hp hH hl hf
    obtain ⟨fu, rfl⟩ : ∃ fu, fuel = fu + 1 := ⟨fuel - 1, by omega⟩
    have hll : l < F.length := by omega
    have hgl := hg _ (z_get hll)
    have hlt : (g (F.getD i 0) ||| g (F.getD j 0)) ||| g (F.getD l 0) < 4096 := Nat.or_lt_two_pow (n := 12) (Nat.or_lt_two_pow (n := 12) hgi hgj) hgl
    have hz : zor g [F.getD i 0, F.getD j 0, F.getD l 0] = (g (F.getD i 0) ||| g (F.getD j 0)) ||| g (F.getD l 0) := by simp [zor]
    rw [f_X0_searchTriples_L41, hp.1, if_neg (nI_ge (by omega) (by omega)), if_pos (z_xin (by omega) (by decide)), nI_clamp (n := l) (by omega), (hp.2.2 l hll).1, hp.2.1, nI_1, zI_or, z_drop hll, List.map_cons, zok_step, hz]
    by_cases c : (g (F.getD i 0) ||| g (F.getD j 0)) ||| g (F.getD l 0) = tg
    · rw [if_pos (by rw [c]), if_pos c]
      obtain ⟨a2, e, h1, h2⟩ := f0_tally (c := [F.getD i 0, F.getD j 0, F.getD l 0]) hp hF hH hi hj hll (by simp) (by simp) (by simp [zmask]) (fun t h => rfl)
      rw [show nI [F.getD i 0, F.getD j 0, F.getD l 0].length = (3 : Int32) from rfl] at e
      rw [e, z_sbind]
      obtain ⟨a3, e3, h3, h4⟩ := ih (l + 1) _ a2 fu (zpt_keep hp h2) h1 (by omega) (by omega)
      exact ⟨a3, e3, h3, zcvf_tr h2 h4⟩
    · rw [if_neg (fun z => c ((nI_eq (by omega) (by omega)).mp z)), if_neg c]
      exact ih (l + 1) _ a fu hp hH (by omega) (by omega)
theorem f0_t14 {F : List Nat} {g : Nat → Nat} {tg i N : Nat} (hF : F.length ≤ 64) (hg : ∀ x ∈ F, g x < 4096) (ht : tg < 4096) (hi : i < F.length) (hN : 5000 ≤ N) : ∀ r j H a fuel, zpt a F g tg → zcov a H → j + r = F.length → r < fuel → ∃ a2, f_X0_searchTriples_L14 N (nI i) fuel (nI j) a = some a2 ∧ zcov a2 (H ++ ((zk2 (F.drop j)).map (fun c => F.getD i 0 :: c)).filter (zok g tg)) ∧ zcvf a a2 := by
  intro r
  induction r with
  | zero =>
    intro j H a fuel hp hH hj hf
    obtain ⟨fu, rfl⟩ : ∃ fu, fuel = fu + 1 := ⟨fuel - 1, by omega⟩
    refine ⟨a, ?_, ?_, zcvf_refl a⟩
    · rw [f_X0_searchTriples_L14, hp.1, if_pos (nI_le (by omega) (by omega))]
    · rw [List.drop_eq_nil_of_le (by omega)]; simpa [zk2] using hH
  | succ r ih =>
    intro j H a fuel hp hH hj hf
    obtain ⟨fu, rfl⟩ : ∃ fu, fuel = fu + 1 := ⟨fuel - 1, by omega⟩
    have hjl : j < F.length := by omega
    rw [f_X0_searchTriples_L14, hp.1, if_neg (nI_ge (by omega) (by omega)), if_pos (z_xin (by omega) (by decide)), if_pos (z_xin (by omega) (by decide)), nI_clamp (n := i) (by omega), nI_clamp (n := j) (by omega), (hp.2.2 i hi).1, (hp.2.2 j hjl).1, zI_or, z_sbind, nI_1, z_drop hjl, zk2, List.map_append, List.map_map, List.filter_append, ← List.append_assoc]
    obtain ⟨a2, e, h1, h2⟩ := f0_t41 hF hg ht hi hjl r (j + 1) H a N hp hH (by omega) (by omega)
    rw [e, z_sbind]
    obtain ⟨a3, e3, h3, h4⟩ := ih (j + 1) _ a2 fu (zpt_keep hp h2) h1 (by omega) (by omega)
    exact ⟨a3, e3, h3, zcvf_tr h2 h4⟩
theorem f0_t2 {F : List Nat} {g : Nat → Nat} {tg N : Nat} (hF : F.length ≤ 64) (hg : ∀ x ∈ F, g x < 4096) (ht : tg < 4096) (hN : 5000 ≤ N) : ∀ r i H a fuel, zpt a F g tg → zcov a H → i + r = F.length → r < fuel → ∃ a2, f_X0_searchTriples_L2 N fuel (nI i) a = some a2 ∧ zcov a2 (H ++ (zk3 (F.drop i)).filter (zok g tg)) ∧ zcvf a a2 := by
  intro r
  induction r with
  | zero =>
    intro i H a fuel hp hH hi hf
    obtain ⟨fu, rfl⟩ : ∃ fu, fuel = fu + 1 := ⟨fuel - 1, by omega⟩
    refine ⟨a, ?_, ?_, zcvf_refl a⟩
    · rw [f_X0_searchTriples_L2, hp.1, if_pos (nI_le (by omega) (by omega))]
    · rw [List.drop_eq_nil_of_le (by omega)]; simpa [zk3] using hH
  | succ r ih =>
    intro i H a fuel hp hH hi hf
    obtain ⟨fu, rfl⟩ : ∃ fu, fuel = fu + 1 := ⟨fuel - 1, by omega⟩
    have hil : i < F.length := by omega
    rw [f_X0_searchTriples_L2, hp.1, if_neg (nI_ge (by omega) (by omega)), nI_1, z_drop hil, zk3, List.filter_append, ← List.append_assoc]
    obtain ⟨a2, e, h1, h2⟩ := f0_t14 hF hg ht hil hN r (i + 1) H a N hp hH (by omega) (by omega)
    rw [e, z_sbind]
    obtain ⟨a3, e3, h3, h4⟩ := ih (i + 1) _ a2 fu (zpt_keep hp h2) h1 (by omega) (by omega)
    exact ⟨a3, e3, h3, zcvf_tr h2 h4⟩
theorem f0_search {a : xT} {F : List Nat} {g : Nat → Nat} {tg h N : Nat} (hF : F.length ≤ 64) (hg : ∀ x ∈ F, g x < 4096) (ht : tg < 4096) (hh : h ≤ 3) (hN : 5000 ≤ N) (hp : zpt a F g tg) : ∃ a2, f_X0_search N (nI h) a = some a2 ∧ zcov a2 ((zka F h).filter (zok g tg)) ∧ zcvf a a2 := by
  have hz : zcvf a (sJ (sI (sI a 19 0) 20 (-1)) 0 (-1)) := ⟨fun j h1 h2 => by rw [gI_sJ, gI_sI, if_neg h2, gI_sI, if_neg h1], fun _ _ _ => rfl, fun _ _ => rfl⟩
  have hc : zcov (sJ (sI (sI a 19 0) 20 (-1)) 0 (-1)) [] := ⟨rfl, rfl, Or.inl ⟨rfl, rfl⟩⟩
  obtain ⟨a2, e2, h2, g2⟩ := f0_s1 (nI h) hF hg ht F.length 0 [] _ N (zpt_keep hp hz) hc (by omega) (by omega)
  have f2 := zcvf_tr hz g2
  obtain ⟨a3, e3, h3, g3⟩ := f0_p2 hF hg ht hN F.length 0 _ a2 N (zpt_keep hp f2) h2 (by omega) (by omega)
  have f3 := zcvf_tr f2 g3
  obtain ⟨a4, e4, h4, g4⟩ := f0_t2 hF hg ht hN F.length 0 _ a3 N (zpt_keep hp f3) h3 (by omega) (by omega)
  rw [List.drop_zero] at h2 h3 h4
  rw [List.nil_append] at h2 h3 h4
  rw [show nI 0 = (0 : Int32) from rfl] at e2 e3 e4
  unfold f_X0_search f_X0_searchPairs f_X0_searchTriples
  rw [e2, z_sbind, e3, z_sbind, z_sbind, e4, z_sbind, z_sbind]
  unfold zka
  by_cases c2 : 2 ≤ h
  · rw [if_neg (show ¬ nI h < (2 : Int32) from nI_nlt (b := 2) c2 (by omega)), if_pos c2]
    by_cases c3 : 3 ≤ h
    · rw [if_neg (show ¬ nI h < (3 : Int32) from nI_nlt (b := 3) c3 (by omega)), if_pos c3]
      refine ⟨a4, rfl, ?_, zcvf_tr f3 g4⟩
      rw [List.filter_append, List.filter_append, ← List.append_assoc]
      exact h4
    · rw [if_pos (show nI h < (3 : Int32) from nI_lt (b := 3) (by omega) (by decide)), if_neg c3]
      refine ⟨a3, rfl, ?_, f3⟩
      rw [List.append_nil, List.filter_append]
      exact h3
  · rw [if_pos (show nI h < (2 : Int32) from nI_lt (b := 2) (by omega) (by decide)), if_pos (show nI h < (3 : Int32) from nI_lt (b := 3) (by omega) (by decide)), if_neg c2, if_neg (show ¬ 3 ≤ h by omega)]
    refine ⟨a2, rfl, ?_, f2⟩
    rw [List.append_nil, List.append_nil]
    exact h2
