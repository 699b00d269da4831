/-! all tests -/
theorem zwd_ne : ∀ i, i < 10 → ∀ j, j < 10 → i ≠ j → zwd i ≠ zwd j := by decide +kernel
theorem z_leaf {a b : xT} {T : Nat → Nat} {tl p N : Nat} {CS RS : List (Nat × Nat)} {e bo : Bool} {k : Nat} {P : List zLv} (hA : ztA a T tl) (hB : ztB b T tl) (hz : zatk a T tl p) (hp : p ≤ tl) (h16 : gI b 16 = nI (zskp T tl p)) (h18 : gI b 18 = nI (if ztk T tl p = 1 then znxt T tl p else zskp T tl p)) (h17 : gJ b 17 = nJ (zwn (zwt T tl p))) (h10 : gI a 10 = 0) (hcs : zcs a CS) (hcl : CS.length < 120) (hr : zrs b RS) (hw : zwb b (zlv (e, bo, k) ++ zvp P)) (hl : RS.length + 1 + (zlv (e, bo, k) ++ zvp P).length ≤ 130) (hN : 200 ≤ N) :
    (∃ q x x2 a2 b2 p2, f_X5_takeWord N a = some a2 ∧ f_X8_readLeaf N b = some (0, b2) ∧ 3 ≤ q ∧ (x = x2 ∨ q = 7) ∧ zvd (q, x) ∧ zvd (q, x2) ∧ zcs a2 (CS ++ [(q, x)]) ∧ zrs b2 (RS ++ ([(q, x2)] ++ zeN k)) ∧ zwb b2 (zlv (e, bo, 0) ++ zvp P) ∧ gI b2 26 = 0 ∧ p < p2 ∧ p2 ≤ tl ∧ zatk a2 T tl p2 ∧ gI b2 16 = nI p2 ∧ zfl7 a a2 ∧ (∀ j, (j < 16 ∨ j = 25 ∨ 26 < j) → gI b2 j = gI b j) ∧ ∀ c j, c ≠ 53 → c ≠ 54 → gA b2 c j = gA b c j) ∨
    (∃ a2 b2 f st, f_X5_takeWord N a = some a2 ∧ f_X8_readLeaf N b = some (nI f, b2) ∧ zbad a2 b2 a b f st) := by
  have hskp := zskp_rng (T := T) hp
  have hnr := znxt_rng (T := T) hp
  have hlt : ∀ j, j < 10 → zwt T tl p = zwd j → gI b 18 = nI (znxt T tl p) ∧ p < znxt T tl p := fun j hj hw => by
    have htk := zwt_tk hj hw
    rw [if_pos htk] at h18
    refine ⟨h18, ?_⟩
    have c1 : zskp T tl p < tl := Classical.byContradiction fun z => by unfold ztk at htk; rw [if_neg z] at htk; cases htk
    have := hnr.2.2 c1
    omega
  have cls : ∀ j, j < 10 → f_X6_isWord N j a = some (bI (decide (zwt T tl p = zwd j))) := fun j hj => f6_isWord hA hz hp hj hN
  have sam : ∀ j, j < 10 → ((gJ b 17 = nJ (zwn (zwd j))) ↔ zwt T tl p = zwd j) := fun j hj => z_same hp hj h17
  have oth : ∀ i j, i < 10 → j < 10 → i ≠ j → zwt T tl p = zwd i → ¬ zwt T tl p = zwd j := fun i j hi hj hij h h2 => zwd_ne i hi j hj hij (h.symm.trans h2)
  have b0 : bI false = (0 : Int32) := rfl
  have b1 : ¬ bI true = (0 : Int32) := by decide
  unfold f_X5_takeWord f_X8_readLeaf
  rw [zcd_pins, zcd_sum, zcd_has, zcd_runs, zcd_turns, zcd_in]
  simp only [z_sbind]
  rw [cls 1 (by decide), cls 2 (by decide), cls 3 (by decide), cls 4 (by decide), cls 5 (by decide), cls 6 (by decide)]
  simp only [z_sbind]
  by_cases w1 : zwt T tl p = zwd 1
  · obtain ⟨e18, hpn⟩ := hlt 1 (by decide) w1
    rw [decide_eq_true w1, if_neg b1, if_neg (fun z => oth 1 2 (by decide) (by decide) (by decide) w1 ((sam 2 (by decide)).mp z)), if_pos ((sam 1 (by decide)).mpr w1)]
    rcases z_sum (N := N) hA hB hz.2.2 e18 hnr.2.1 h10 hcs hcl hr hw hl hN with ⟨v, a2, b2, p2, k1, k2, k3, k4, k5, k6, k7, k8, k9, k10, k11, k12, k13, k14⟩ | ⟨a2, b2, f, st, k1, k2, k3⟩
    · left
      refine ⟨4, v, v, a2, b2, p2, ?_, k2, by decide, Or.inl rfl, k3, k3, k4, k5, k6, k7, by omega, k9, k10, k11, k12, k13, k14⟩
      rw [k1, z_sbind]
    · right
      exact ⟨a2, b2, f, st, by rw [k1, z_sbind], k2, k3⟩
  rw [decide_eq_false w1, if_pos b0, if_neg (fun z => w1 ((sam 1 (by decide)).mp z))]
  have num : ∀ j q hi, j < 10 → zwt T tl p = zwd j → (q = 3 ∨ q = 5 ∨ q = 6 ∨ q = 8) → hi ≤ 200 → (∀ v, v ≤ hi → zvd (q, v)) → (∃ x a2 b2 p2, (f_X5_takeNumbered N (nI (zk7 q)) (nI hi) a).bind (fun z => some z) = some a2 ∧ (f_X8_readNumber N 0 (nI hi) (sI b 16 (gI b 18))).bind (fun q214 => if q214.1 = 0 then (f_X8_step (nI q) (gI q214.2 19) q214.2).bind (fun q228 => (f_X8_work N 2 q228).bind (fun q233 => some (q214.1, (sI q233 26 0)))) else some (q214.1, q214.2)) = some (0, b2) ∧ zvd (q, x) ∧ zcs a2 (CS ++ [(q, x)]) ∧ zrs b2 (RS ++ ([(q, x)] ++ zeN k)) ∧ zwb b2 (zlv (e, bo, 0) ++ zvp P) ∧ gI b2 26 = 0 ∧ p < p2 ∧ p2 ≤ tl ∧ zatk a2 T tl p2 ∧ gI b2 16 = nI p2 ∧ zfl7 a a2 ∧ (∀ j, (j < 16 ∨ j = 25 ∨ 26 < j) → gI b2 j = gI b j) ∧ ∀ c j, c ≠ 53 → c ≠ 54 → gA b2 c j = gA b c j) ∨ (∃ a2 b2 f st, (f_X5_takeNumbered N (nI (zk7 q)) (nI hi) a).bind (fun z => some z) = some a2 ∧ (f_X8_readNumber N 0 (nI hi) (sI b 16 (gI b 18))).bind (fun q214 => if q214.1 = 0 then (f_X8_step (nI q) (gI q214.2 19) q214.2).bind (fun q228 => (f_X8_work N 2 q228).bind (fun q233 => some (q214.1, (sI q233 26 0)))) else some (q214.1, q214.2)) = some (nI f, b2) ∧ zbad a2 b2 a b f st) := by
    intro j q hi hj hwj hq hhi hvd
    obtain ⟨e18, hpn⟩ := hlt j hj hwj
    rcases z_numbered (N := N) hA hB hz.2.2 e18 hnr.2.1 h10 hcs hcl hr hw hl hq hhi hvd hN with ⟨v, a2, b2, p2, k1, k2, k3, k4, k5, k6, k7, k8, k9, k10, k11, k12, k13, k14⟩ | ⟨a2, b2, f, st, k1, k2, k3⟩
    · left
      exact ⟨v, a2, b2, p2, by rw [k1, z_sbind], k2, k3, k4, k5, k6, k7, by omega, k9, k10, k11, k12, k13, k14⟩
    · right
      exact ⟨a2, b2, f, st, by rw [k1, z_sbind], k2, k3⟩
  by_cases w2 : zwt T tl p = zwd 2
  · rw [decide_eq_true w2, if_neg b1, if_pos ((sam 2 (by decide)).mpr w2)]
    rcases num 2 3 12 (by decide) w2 (by decide) (by decide) (fun v hv => Or.inr (Or.inl ⟨rfl, hv⟩)) with ⟨v, a2, b2, p2, k1, k2, k3, k4, k5⟩ | ⟨a2, b2, f, st, k1, k2, k3⟩
    · exact Or.inl ⟨3, v, v, a2, b2, p2, k1, k2, by decide, Or.inl rfl, k3, k3, k4, k5⟩
    · exact Or.inr ⟨a2, b2, f, st, k1, k2, k3⟩
  rw [decide_eq_false w2, if_pos b0, if_neg (fun z => w2 ((sam 2 (by decide)).mp z))]
  by_cases w3 : zwt T tl p = zwd 3
  · rw [decide_eq_true w3, if_neg b1, if_pos ((sam 3 (by decide)).mpr w3)]
    rcases num 3 5 11 (by decide) w3 (by decide) (by decide) (fun v hv => Or.inr (Or.inr (Or.inr (Or.inl ⟨rfl, hv⟩)))) with ⟨v, a2, b2, p2, k1, k2, k3, k4, k5⟩ | ⟨a2, b2, f, st, k1, k2, k3⟩
    · exact Or.inl ⟨5, v, v, a2, b2, p2, k1, k2, by decide, Or.inl rfl, k3, k3, k4, k5⟩
    · exact Or.inr ⟨a2, b2, f, st, k1, k2, k3⟩
  rw [decide_eq_false w3, if_pos b0, if_neg (fun z => w3 ((sam 3 (by decide)).mp z))]
  by_cases w4 : zwt T tl p = zwd 4
  · rw [decide_eq_true w4, if_neg b1, if_pos ((sam 4 (by decide)).mpr w4)]
    rcases num 4 6 12 (by decide) w4 (by decide) (by decide) (fun v hv => Or.inr (Or.inr (Or.inr (Or.inr (Or.inl ⟨rfl, hv⟩))))) with ⟨v, a2, b2, p2, k1, k2, k3, k4, k5⟩ | ⟨a2, b2, f, st, k1, k2, k3⟩
    · exact Or.inl ⟨6, v, v, a2, b2, p2, k1, k2, by decide, Or.inl rfl, k3, k3, k4, k5⟩
    · exact Or.inr ⟨a2, b2, f, st, k1, k2, k3⟩
  rw [decide_eq_false w4, if_pos b0, if_neg (fun z => w4 ((sam 4 (by decide)).mp z))]
  by_cases w5 : zwt T tl p = zwd 5
  · rw [decide_eq_true w5, if_neg b1, if_neg (fun z => oth 5 6 (by decide) (by decide) (by decide) w5 ((sam 6 (by decide)).mp z)), if_pos ((sam 5 (by decide)).mpr w5)]
    rcases num 5 8 5 (by decide) w5 (by decide) (by decide) (fun v hv => Or.inr (Or.inr (Or.inr (Or.inr (Or.inr (Or.inr ⟨rfl, hv⟩)))))) with ⟨v, a2, b2, p2, k1, k2, k3, k4, k5⟩ | ⟨a2, b2, f, st, k1, k2, k3⟩
    · exact Or.inl ⟨8, v, v, a2, b2, p2, k1, k2, by decide, Or.inl rfl, k3, k3, k4, k5⟩
    · exact Or.inr ⟨a2, b2, f, st, k1, k2, k3⟩
  rw [decide_eq_false w5, if_pos b0, if_neg (fun z => w5 ((sam 5 (by decide)).mp z))]
  by_cases w6 : zwt T tl p = zwd 6
  · rw [decide_eq_true w6, if_neg b1, if_pos ((sam 6 (by decide)).mpr w6)]
    obtain ⟨e18, hpn⟩ := hlt 6 (by decide) w6
    obtain ⟨a1, x1, x2, x3⟩ := f6_adv (N := N) hA hz.2.2 hnr.2.1 hN
    obtain ⟨a2, u1, u2, u3⟩ := f5_put (k := 7) (x := 0) (zcs_x hcs x3) hcl
    rw [show nI (zk7 7) = (5 : Int32) from rfl, show nI (znm (7, 0)) = (0 : Int32) from rfl, show nI (zdv (7, 0)) = (0 : Int32) from rfl] at u1
    have hr2 : zrs (sI b 16 (gI b 18)) RS := hr
    have hw2 : zwb (sI b 16 (gI b 18)) (zlv (e, bo, k) ++ zvp P) := ⟨hw.1, zwv_keep hw.2 (fun _ _ => rfl)⟩
    obtain ⟨b2, t1, t2, t3, t4, t5, t6⟩ := f8_leafend (N := N) (q := 7) (x := 0) (v := gI b 19) hr2 hw2 hl (Or.inl rfl) hN 0
    left
    refine ⟨7, 0, 0, a2, b2, znxt T tl p, ?_, t1, by decide, Or.inl rfl, Or.inr (Or.inr (Or.inr (Or.inr (Or.inr (Or.inl rfl))))), Or.inr (Or.inr (Or.inr (Or.inr (Or.inr (Or.inl rfl))))), u2, t2, t3, t4, hpn, hnr.2.1, zatk_f x2 (u3.1 6 (by decide)) (u3.1 7 (by decide)) (u3.1 8 (by decide)), ?_, ⟨fun j hj => ?_, fun c j h1 h2 h3 => ?_, fun c j => ?_⟩, fun j hj => ?_, fun c j h1 h2 => ?_⟩
    · rw [x1, z_sbind, u1]; rfl
    · rw [t5 16 (by decide) (by decide) (by decide), gI_sI, if_pos rfl, e18]
    · rw [u3.1 j (by omega), x3.1 j (by omega) (by omega) (by omega)]
    · rw [u3.2.1 c j h1 h2 h3, x3.2.1]
    · rw [u3.2.2, x3.2.2]
    · rw [t5 j (by omega) (by omega) (by omega), gI_sI, if_neg (by omega)]
    · rw [t6 c j h1 h2]; rfl
  · rw [decide_eq_false w6, if_pos b0, if_neg (fun z => w6 ((sam 6 (by decide)).mp z)), f5_blame0 _ h10]
    unfold f_X8_fails
    right
    refine ⟨_, _, 1, zskp T tl p, rfl, rfl, Or.inl rfl, rfl, ?_, ?_, zln_of hcs, rfl, ⟨fun j hj => ?_, fun _ _ _ => rfl, fun _ _ => rfl⟩, ⟨fun j hj => ?_, fun _ _ _ => rfl⟩⟩
    · rw [gI_sI, if_pos rfl]; exact hz.1
    · rw [gI_sI, if_pos rfl]; exact h16
    · rw [gI_sI, if_neg (by omega), gI_sI, if_neg (by omega)]
    · rw [gI_sI, if_neg (by omega)]
