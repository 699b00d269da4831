/-! a test, on both sides -/
def zlv (l : zLv) : List Nat := List.replicate l.2.2 2 ++ ((if l.2.1 then [1] else []) ++ (if l.1 then [0] else []))
def zvp : List zLv → List Nat
  | [] => []
  | l :: P => 3 :: (zlv l ++ zvp P)
def zvd (i : Nat × Nat) : Prop := i.1 < 3 ∨ (i.1 = 3 ∧ i.2 ≤ 12) ∨ (i.1 = 4 ∧ 1 ≤ i.2 % 100 ∧ i.2 ≤ 9899) ∨ (i.1 = 5 ∧ i.2 ≤ 11) ∨ (i.1 = 6 ∧ i.2 ≤ 12) ∨ i.1 = 7 ∨ (i.1 = 8 ∧ i.2 ≤ 5)
theorem f5_blame0 {a : xT} (v : Int32) (h : gI a 10 = 0) : f_X5_blame v a = some (sI (sI a 10 v) 11 (gI a 7)) := by
  unfold f_X5_blame; rw [if_pos h]
theorem f5_blame1 {a : xT} (v : Int32) (h : ¬ gI a 10 = 0) : f_X5_blame v a = some a := by
  unfold f_X5_blame; rw [if_neg h]
theorem zvp_hd (P : List zLv) : zvp P = [] ∨ ∃ R', zvp P = 3 :: R' := by
  cases P with
  | nil => exact Or.inl rfl
  | cons l P => exact Or.inr ⟨_, rfl⟩
theorem zlv_rest (e bo : Bool) (P : List zLv) : (((if bo then [1] else []) ++ (if e then [0] else [])) ++ zvp P = []) ∨ ∃ r R', ((if bo then [1] else []) ++ (if e then [0] else [])) ++ zvp P = r :: R' ∧ r ≤ 3 ∧ (r = 3 ∨ r < 2) := by
  cases bo with
  | true => exact Or.inr ⟨1, _, rfl, by decide, Or.inr (by decide)⟩
  | false =>
    cases e with
    | true => exact Or.inr ⟨0, _, rfl, by decide, Or.inr (by decide)⟩
    | false =>
      rcases zvp_hd P with h | ⟨R', h⟩
      · exact Or.inl (by simpa using h)
      · exact Or.inr ⟨3, R', by simpa using h, by decide, Or.inl rfl⟩
theorem zeN_map (k : Nat) : (List.replicate k 2).map (fun x => (x, 0)) = zeN k := by
  unfold zeN; rw [List.map_replicate]
theorem f8_nots {b : xT} {RS : List (Nat × Nat)} {e bo : Bool} {k N : Nat} {P : List zLv} (hr : zrs b RS) (hw : zwb b (zlv (e, bo, k) ++ zvp P)) (hl : RS.length + (zlv (e, bo, k) ++ zvp P).length ≤ 130) (hN : 200 ≤ N) : ∃ b2, f_X8_work N 2 b = some b2 ∧ zwb b2 (zlv (e, bo, 0) ++ zvp P) ∧ zrs b2 (RS ++ zeN k) ∧ (∀ j, j ≠ 20 → j ≠ 23 → gI b2 j = gI b j) ∧ ∀ c j, c ≠ 53 → c ≠ 54 → gA b2 c j = gA b c j := by
  have e1 : zlv (e, bo, k) ++ zvp P = List.replicate k 2 ++ (((if bo then [1] else []) ++ (if e then [0] else [])) ++ zvp P) := by
    unfold zlv; rw [List.append_assoc]
  have e2 : zlv (e, bo, 0) ++ zvp P = ((if bo then [1] else []) ++ (if e then [0] else [])) ++ zvp P := rfl
  rw [e1] at hw hl
  rw [e2]
  have hkl : (List.replicate k 2 : List Nat).length = k := List.length_replicate
  rw [List.length_append, hkl] at hl
  obtain ⟨b2, w1, w2, w3, w4, w5⟩ := f8_work_loop (ls := 2) (by decide) (zlv_rest e bo P) (List.replicate k 2) b RS N hw hr (fun x hx => by rw [List.eq_of_mem_replicate hx]; decide) (by rw [List.length_append, hkl]; omega) (by rw [hkl]; omega) (by rw [hkl]; omega)
  rw [zeN_map] at w3
  unfold f_X8_work
  rw [show (2 : Int32) = nI 2 from rfl, w1]
  exact ⟨b2, rfl, w2, w3, w4, w5⟩
theorem f8_leafend {b : xT} {RS : List (Nat × Nat)} {e bo : Bool} {k q x N : Nat} {v : Int32} {P : List zLv} (hr : zrs b RS) (hw : zwb b (zlv (e, bo, k) ++ zvp P)) (hl : RS.length + 1 + (zlv (e, bo, k) ++ zvp P).length ≤ 130) (hv : q = 7 ∨ v = nI x) (hN : 200 ≤ N) (r : Int32) : ∃ b2, ((f_X8_step (nI q) v b).bind (fun q228 => (f_X8_work N 2 q228).bind (fun q233 => some (r, sI q233 26 0)))) = some (r, b2) ∧ zrs b2 (RS ++ ([(q, x)] ++ zeN k)) ∧ zwb b2 (zlv (e, bo, 0) ++ zvp P) ∧ gI b2 26 = 0 ∧ (∀ j, j ≠ 20 → j ≠ 23 → j ≠ 26 → gI b2 j = gI b j) ∧ ∀ c j, c ≠ 53 → c ≠ 54 → gA b2 c j = gA b c j := by
  obtain ⟨b1, w1, w2, w3, w4⟩ := f8_step (k := q) (x := x) (v := v) hr (by omega) hv
  have hw1 : zwb b1 (zlv (e, bo, k) ++ zvp P) := ⟨(w3 23 (by decide)).trans hw.1, zwv_keep hw.2 (fun j _ => w4 55 j (by decide) (by decide))⟩
  obtain ⟨b2, u1, u2, u3, u4, u5⟩ := f8_nots (N := N) w2 hw1 (by rw [List.length_append, List.length_singleton]; omega) hN
  rw [w1, z_sbind, u1, z_sbind]
  refine ⟨_, rfl, ?_, ⟨u2.1, zwv_keep u2.2 (fun _ _ => rfl)⟩, rfl, fun j h1 h2 h3 => ?_, fun c j h1 h2 => (u5 c j h1 h2).trans (w4 c j h1 h2)⟩
  · rw [List.append_assoc] at u3
    exact u3
  · rw [gI_sI, if_neg h3, u4 j h1 h2, w3 j h1]
theorem zatk_f {a a2 : xT} {T : Nat → Nat} {tl p : Nat} (h : zatk a T tl p) (h6 : gI a2 6 = gI a 6) (h7 : gI a2 7 = gI a 7) (h8 : gI a2 8 = gI a 8) : zatk a2 T tl p := ⟨h7.trans h.1, h6.trans h.2.1, h8.trans h.2.2⟩
theorem zcs_x {a a2 : xT} {CS : List (Nat × Nat)} (h : zcs a CS) (f : zfx a a2) : zcs a2 CS := ⟨(f.1 9 (by decide) (by decide) (by decide)).trans h.1, h.2.1, fun i hi => by rw [f.2.1, f.2.1, f.2.1]; exact h.2.2 i hi⟩
/-- what a test leaves as it was in the class -/
def zfl7 (a a2 : xT) : Prop := (∀ j, (j < 6 ∨ 9 < j) → gI a2 j = gI a j) ∧ (∀ c j, c ≠ 9 → c ≠ 10 → c ≠ 11 → gA a2 c j = gA a c j) ∧ ∀ c j, gB a2 c j = gB a c j
/-- a fault of a test: the same on both sides -/
def zbad (a2 b2 a b : xT) (k st : Nat) : Prop := (k = 1 ∨ k = 2) ∧ gI a2 10 = nI k ∧ gI a2 11 = nI st ∧ gI b2 15 = nI st ∧ zln a2 ∧ gI a2 12 = gI a 12 ∧ zfp a a2 ∧ zfq b b2
theorem zln_of {a : xT} {CS : List (Nat × Nat)} (h : zcs a CS) : zln a := ⟨CS.length, h.2.1, h.1⟩
/-- a word and its number -/
theorem z_numbered {a b : xT} {T : Nat → Nat} {tl nx q hi N : Nat} {CS RS : List (Nat × Nat)} {e bo : Bool} {k : Nat} {P : List zLv} (hA : ztA a T tl) (hB : ztB b T tl) (h8 : gI a 8 = nI nx) (h18 : gI b 18 = nI nx) (hnx : nx ≤ tl) (h10 : gI a 10 = 0) (hcs : zcs a CS) (hcl : CS.length < 120) (hr : zrs b RS) (hw : zwb b (zlv (e, bo, k) ++ zvp P)) (hl : RS.length + 1 + (zlv (e, bo, k) ++ zvp P).length ≤ 130) (hq : q = 3 ∨ q = 5 ∨ q = 6 ∨ q = 8) (hhi : hi ≤ 200) (hvd : ∀ v, v ≤ hi → zvd (q, v)) (hN : 200 ≤ N) :
    (∃ v a2 b2 p2, f_X5_takeNumbered N (nI (zk7 q)) (nI hi) a = some a2 ∧ (f_X8_readNumber N 0 (nI hi) (sI b 16 (gI b 18))).bind (fun q214 => if q214.1 = 0 then (f_X8_step (nI q) (gI q214.2 19) q214.2).bind (fun q228 => (f_X8_work N 2 q228).bind (fun q233 => some (q214.1, (sI q233 26 0)))) else some (q214.1, q214.2)) = some (0, b2) ∧ zvd (q, v) ∧ zcs a2 (CS ++ [(q, v)]) ∧ zrs b2 (RS ++ ([(q, v)] ++ zeN k)) ∧ zwb b2 (zlv (e, bo, 0) ++ zvp P) ∧ gI b2 26 = 0 ∧ nx < p2 ∧ p2 ≤ tl ∧ zatk a2 T tl p2 ∧ gI b2 16 = nI p2 ∧ zfl7 a a2 ∧ (∀ j, (j < 16 ∨ j = 25 ∨ 26 < j) → gI b2 j = gI b j) ∧ ∀ c j, c ≠ 53 → c ≠ 54 → gA b2 c j = gA b c j) ∨
    (∃ a2 b2 f st, f_X5_takeNumbered N (nI (zk7 q)) (nI hi) a = some a2 ∧ (f_X8_readNumber N 0 (nI hi) (sI b 16 (gI b 18))).bind (fun q214 => if q214.1 = 0 then (f_X8_step (nI q) (gI q214.2 19) q214.2).bind (fun q228 => (f_X8_work N 2 q228).bind (fun q233 => some (q214.1, (sI q233 26 0)))) else some (q214.1, q214.2)) = some (nI f, b2) ∧ zbad a2 b2 a b f st) := by
  obtain ⟨a1, x1, x2, x3⟩ := f6_adv (N := N) hA h8 hnx hN
  have hA1 := zfp_A hA (zfp_x x3)
  have hcs1 := zcs_x hcs x3
  have h101 : gI a1 10 = 0 := (x3.1 10 (by decide) (by decide) (by decide)).trans h10
  have hB1 : ztB (sI b 16 (nI nx)) T tl := hB
  unfold f_X5_takeNumbered
  rw [x1, z_sbind, h18]
  have z := z_num (lo := 0) (hi := hi) (N := N) hA1 hB1 x2 (show gI (sI b 16 (nI nx)) 16 = nI nx from rfl) hnx (by decide) hhi hN
  rw [show nI 0 = (0 : Int32) from rfl] at z
  rcases z with ⟨v, a2, b2, p2, y1, y2, y3, y4, y5, y6, y7, y8, y9, y10, y11, y12⟩ | ⟨f, b2, y1, y2, y3, y4, y5, y6⟩
  · left
    have hcs2 := zcs_x hcs1 y10
    obtain ⟨a3, u1, u2, u3⟩ := f5_put (k := q) (x := v) hcs2 hcl
    have hnm : nI (znm (q, v)) = nI v := by unfold znm; rw [if_neg (by omega)]
    have hdv : nI (zdv (q, v)) = 0 := by unfold zdv; rw [if_neg (by omega)]; rfl
    rw [hnm, hdv] at u1
    have hr2 : zrs b2 RS := ⟨(y11 20 (by decide) (by decide)).trans hr.1, fun i hi2 => by rw [y12, y12]; exact hr.2 i hi2⟩
    have hw2 : zwb b2 (zlv (e, bo, k) ++ zvp P) := ⟨(y11 23 (by decide) (by decide)).trans hw.1, zwv_keep hw.2 (fun j _ => y12 55 j)⟩
    obtain ⟨b3, t1, t2, t3, t4, t5, t6⟩ := f8_leafend (N := N) (q := q) (x := v) (v := gI b2 19) hr2 hw2 hl (Or.inr y9) hN 0
    refine ⟨v, a3, b3, p2, ?_, ?_, hvd v y4, u2, t2, t3, t4, y5, y6, zatk_f y7 (u3.1 6 (by decide)) (u3.1 7 (by decide)) (u3.1 8 (by decide)), ?_, ⟨fun j hj => ?_, fun c j h1 h2 h3 => ?_, fun c j => ?_⟩, fun j hj => ?_, fun c j h1 h2 => ?_⟩
    · rw [y1, z_sbind, u1]; rfl
    · rw [y2, z_sbind]
      simp only [↓reduceIte]
      exact t1
    · rw [t5 16 (by decide) (by decide) (by decide), y8]
    · rw [u3.1 j (by omega), y10.1 j (by omega) (by omega) (by omega), x3.1 j (by omega) (by omega) (by omega)]
    · rw [u3.2.1 c j h1 h2 h3, y10.2.1, x3.2.1]
    · rw [u3.2.2, y10.2.2, x3.2.2]
    · rw [t5 j (by omega) (by omega) (by omega), y11 j (by omega) (by omega), gI_sI, if_neg (by omega)]
    · rw [t6 c j h1 h2, y12]; rfl
  · right
    rw [y2, f5_blame0 _ h101, z_sbind, z_sbind]
    obtain ⟨a3, u1, u2, u3⟩ := f5_putT (nI (zk7 q)) 0 0 (show zln (sI (sI a1 10 (nI f)) 11 (gI a1 7)) from zln_of hcs1)
    refine ⟨a3, b2, f, zskp T tl nx, ?_, ?_, y1, ?_, ?_, y4, u2, ?_, ?_, ⟨fun j hj => ?_, fun c j hc => y6 c j⟩⟩
    · rw [u1]; rfl
    · rw [y3, z_sbind]
      have hne : ¬ nI f = 0 := fun z => by rw [nI_eq0 (by omega)] at z; omega
      simp only [if_neg hne]
    · rw [u3.1 10 (by decide)]; rfl
    · rw [u3.1 11 (by decide), gI_sI, if_pos rfl]; exact x2.1
    · rw [u3.1 12 (by decide), gI_sI, if_neg (by decide), gI_sI, if_neg (by decide)]
      exact x3.1 12 (by decide) (by decide) (by decide)
    · refine zfp_tr (zfp_x x3) (zfp_tr (b := sI (sI a1 10 (nI f)) 11 (gI a1 7)) ⟨fun j hj => ?_, fun _ _ _ => rfl, fun _ _ => rfl⟩ (zfu_p u3))
      rw [gI_sI, if_neg (by omega), gI_sI, if_neg (by omega)]
    · rw [y5 j (by omega) (by omega) (by omega), gI_sI, if_neg (by omega)]
