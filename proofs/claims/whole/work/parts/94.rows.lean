/-! rows of marks none of which are alike -/
theorem zWf_eq (A : Nat → Nat → Bool) : ∀ f g (L : List Nat), L.length ≤ f → L.length ≤ g → zWf A f L = zWf A g L := by
  intro f
  induction f with
  | zero =>
    intro g L h1 h2
    have : L = [] := List.eq_nil_of_length_eq_zero (by omega)
    subst this
    cases g <;> rfl
  | succ f ih =>
    intro g L h1 h2
    cases L with
    | nil => cases g <;> rfl
    | cons m L =>
      rw [List.length_cons] at h1 h2
      obtain ⟨g, rfl⟩ : ∃ q, g = q + 1 := ⟨g - 1, by omega⟩
      have hf := List.length_filter_le (fun k => !A m k) L
      rw [zWf, zWf, ih g L (by omega) (by omega), ih g (L.filter (fun k => !A m k)) (by omega) (by omega)]
theorem zW_nil (A : Nat → Nat → Bool) : zW A [] = [] := rfl
theorem zW_cons (A : Nat → Nat → Bool) (m : Nat) (L : List Nat) : zW A (m :: L) = if (zW A L).length ≤ (zW A (L.filter (fun k => !A m k))).length + 1 then m :: zW A (L.filter (fun k => !A m k)) else zW A L := by
  have hf := List.length_filter_le (fun k => !A m k) L
  show zWf A (L.length + 1) (m :: L) = _
  rw [zWf]
  unfold zW
  rw [zWf_eq A L.length (L.filter (fun k => !A m k)).length _ hf (Nat.le_refl _)]
def zgr (A : Nat → Nat → Bool) (Q L : List Nat) : Prop := Q.Sublist L ∧ Q.Pairwise (fun x y => A x y = false)
theorem zW_row (A : Nat → Nat → Bool) : ∀ f (L : List Nat), L.length ≤ f → zgr A (zW A L) L := by
  intro f
  induction f with
  | zero =>
    intro L h
    have : L = [] := List.eq_nil_of_length_eq_zero (by omega)
    subst this
    rw [zW_nil]
    exact ⟨List.Sublist.refl _, List.Pairwise.nil⟩
  | succ f ih =>
    intro L h
    cases L with
    | nil => rw [zW_nil]; exact ⟨List.Sublist.refl _, List.Pairwise.nil⟩
    | cons m L =>
      rw [List.length_cons] at h
      have hf := List.length_filter_le (fun k => !A m k) L
      rw [zW_cons]
      split
      · obtain ⟨h1, h2⟩ := ih (L.filter (fun k => !A m k)) (by omega)
        refine ⟨(h1.trans List.filter_sublist).cons_cons m, List.Pairwise.cons (fun y hy => ?_) h2⟩
        have := (List.mem_filter.mp (h1.subset hy)).2
        simpa using this
      · obtain ⟨h1, h2⟩ := ih L (by omega)
        exact ⟨h1.cons m, h2⟩
theorem zfil_of {A : Nat → Nat → Bool} {m : Nat} {Q L : List Nat} (h1 : Q.Sublist L) (h2 : ∀ y ∈ Q, A m y = false) : Q.Sublist (L.filter (fun k => !A m k)) := by
  have h := h1.filter (fun k => !A m k)
  have e : Q.filter (fun k => !A m k) = Q := List.filter_eq_self.mpr (fun y hy => by rw [h2 y hy]; rfl)
  rwa [e] at h
theorem zW_max (A : Nat → Nat → Bool) : ∀ f (L : List Nat), L.length ≤ f → ∀ Q, zgr A Q L → Q.length ≤ (zW A L).length := by
  intro f
  induction f with
  | zero =>
    intro L h Q hQ
    have : L = [] := List.eq_nil_of_length_eq_zero (by omega)
    subst this
    have := hQ.1.length_le
    simp only [List.length_nil] at this
    omega
  | succ f ih =>
    intro L h Q hQ
    cases L with
    | nil =>
      have := hQ.1.length_le
      simp only [List.length_nil] at this
      omega
    | cons m L =>
      rw [List.length_cons] at h
      have hf := List.length_filter_le (fun k => !A m k) L
      have key : Q.length ≤ (zW A L).length ∨ Q.length ≤ (zW A (L.filter (fun k => !A m k))).length + 1 := by
        cases hQ.1 with
        | cons _ hs => exact Or.inl (ih L (by omega) Q ⟨hs, hQ.2⟩)
        | cons_cons _ hs =>
          rename_i Q'
          right
          have hp := List.pairwise_cons.mp hQ.2
          have := ih (L.filter (fun k => !A m k)) (by omega) Q' ⟨zfil_of hs hp.1, hp.2⟩
          rw [List.length_cons]
          omega
      rw [zW_cons]
      split
      · rw [List.length_cons]; omega
      · omega
theorem zW_len (A : Nat → Nat → Bool) (L : List Nat) : (zW A L).length ≤ L.length := (zW_row A L.length L (Nat.le_refl _)).1.length_le
theorem zW_mono {A : Nat → Nat → Bool} {L L2 : List Nat} (h : L.Sublist L2) : (zW A L).length ≤ (zW A L2).length := by
  obtain ⟨h1, h2⟩ := zW_row A L.length L (Nat.le_refl _)
  exact zW_max A L2.length L2 (Nat.le_refl _) _ ⟨h1.trans h, h2⟩
/-- the first row of so many -/
def zVf (A : Nat → Nat → Bool) : Nat → Nat → List Nat → Option (List Nat)
  | _, 0, _ => some []
  | 0, _ + 1, _ => none
  | _ + 1, _ + 1, [] => none
  | f + 1, k + 1, m :: L => (zVf A f k (L.filter (fun k => !A m k))).elim (zVf A f (k + 1) L) (fun Q => some (m :: Q))
def zV (A : Nat → Nat → Bool) (k : Nat) (L : List Nat) : Option (List Nat) := zVf A L.length k L
theorem zVf_0 (A : Nat → Nat → Bool) (f : Nat) (L : List Nat) : zVf A f 0 L = some [] := by cases f <;> rfl
theorem zVf_eq (A : Nat → Nat → Bool) : ∀ f g k (L : List Nat), L.length ≤ f → L.length ≤ g → zVf A f k L = zVf A g k L := by
  intro f
  induction f with
  | zero =>
    intro g k L h1 h2
    have : L = [] := List.eq_nil_of_length_eq_zero (by omega)
    subst this
    cases k with
    | zero => rw [zVf_0, zVf_0]
    | succ k => cases g <;> rfl
  | succ f ih =>
    intro g k L h1 h2
    cases k with
    | zero => rw [zVf_0, zVf_0]
    | succ k =>
      cases L with
      | nil => cases g <;> rfl
      | cons m L =>
        rw [List.length_cons] at h1 h2
        obtain ⟨g, rfl⟩ : ∃ q, g = q + 1 := ⟨g - 1, by omega⟩
        have hf := List.length_filter_le (fun k => !A m k) L
        rw [zVf, zVf, ih g (k + 1) L (by omega) (by omega), ih g k (L.filter (fun k => !A m k)) (by omega) (by omega)]
theorem zV_0 (A : Nat → Nat → Bool) (L : List Nat) : zV A 0 L = some [] := zVf_0 A _ L
theorem zV_nil (A : Nat → Nat → Bool) (k : Nat) : zV A (k + 1) [] = none := rfl
theorem zV_cons (A : Nat → Nat → Bool) (k m : Nat) (L : List Nat) : zV A (k + 1) (m :: L) = (zV A k (L.filter (fun k => !A m k))).elim (zV A (k + 1) L) (fun Q => some (m :: Q)) := by
  have hf := List.length_filter_le (fun k => !A m k) L
  show zVf A (L.length + 1) (k + 1) (m :: L) = _
  rw [zVf]
  unfold zV
  rw [zVf_eq A L.length (L.filter (fun k => !A m k)).length k _ hf (Nat.le_refl _)]
theorem zV_row (A : Nat → Nat → Bool) : ∀ f (L : List Nat), L.length ≤ f → ∀ k Q, zV A k L = some Q → zgr A Q L ∧ Q.length = k := by
  intro f
  induction f with
  | zero =>
    intro L h k Q hQ
    have : L = [] := List.eq_nil_of_length_eq_zero (by omega)
    subst this
    cases k with
    | zero => rw [zV_0] at hQ; cases hQ; exact ⟨⟨List.nil_sublist _, List.Pairwise.nil⟩, rfl⟩
    | succ k => rw [zV_nil] at hQ; cases hQ
  | succ f ih =>
    intro L h k Q hQ
    cases k with
    | zero => rw [zV_0] at hQ; cases hQ; exact ⟨⟨List.nil_sublist _, List.Pairwise.nil⟩, rfl⟩
    | succ k =>
      cases L with
      | nil => rw [zV_nil] at hQ; cases hQ
      | cons m L =>
        rw [List.length_cons] at h
        have hf := List.length_filter_le (fun k => !A m k) L
        rw [zV_cons] at hQ
        cases q : zV A k (L.filter (fun k => !A m k)) with
        | none =>
          rw [q] at hQ
          obtain ⟨⟨h1, h2⟩, h3⟩ := ih L (by omega) (k + 1) Q hQ
          exact ⟨⟨h1.cons m, h2⟩, h3⟩
        | some P =>
          rw [q] at hQ
          have e : Q = m :: P := (Option.some.inj hQ).symm
          subst e
          obtain ⟨⟨h1, h2⟩, h3⟩ := ih (L.filter (fun k => !A m k)) (by omega) k P q
          refine ⟨⟨(h1.trans List.filter_sublist).cons_cons m, List.Pairwise.cons (fun y hy => ?_) h2⟩, by rw [List.length_cons, h3]⟩
          have := (List.mem_filter.mp (h1.subset hy)).2
          simpa using this
theorem zV_le {A : Nat → Nat → Bool} {L Q : List Nat} {k : Nat} (h : zV A k L = some Q) : k ≤ (zW A L).length := by
  obtain ⟨h1, h2⟩ := zV_row A L.length L (Nat.le_refl _) k Q h
  rw [← h2]
  exact zW_max A L.length L (Nat.le_refl _) Q h1
theorem zV_some (A : Nat → Nat → Bool) : ∀ f (L : List Nat), L.length ≤ f → ∀ k, k ≤ (zW A L).length → ∃ Q, zV A k L = some Q := by
  intro f
  induction f with
  | zero =>
    intro L h k hk
    have := zW_len A L
    have : k = 0 := by omega
    subst this
    exact ⟨_, zV_0 A L⟩
  | succ f ih =>
    intro L h k hk
    cases k with
    | zero => exact ⟨_, zV_0 A L⟩
    | succ k =>
      cases L with
      | nil => rw [zW_nil] at hk; simp only [List.length_nil] at hk; omega
      | cons m L =>
        rw [List.length_cons] at h
        have hf := List.length_filter_le (fun k => !A m k) L
        rw [zV_cons]
        cases q : zV A k (L.filter (fun k => !A m k)) with
        | some P => exact ⟨_, rfl⟩
        | none =>
          rw [zW_cons] at hk
          split at hk
          · rw [List.length_cons] at hk
            obtain ⟨P, hP⟩ := ih (L.filter (fun k => !A m k)) (by omega) k (by omega)
            rw [q] at hP; cases hP
          · exact ih L (by omega) (k + 1) hk
theorem zV_W (A : Nat → Nat → Bool) : ∀ f (L : List Nat), L.length ≤ f → zV A (zW A L).length L = some (zW A L) := by
  intro f
  induction f with
  | zero =>
    intro L h
    have : L = [] := List.eq_nil_of_length_eq_zero (by omega)
    subst this
    rw [zW_nil, List.length_nil, zV_0]
  | succ f ih =>
    intro L h
    cases L with
    | nil => rw [zW_nil, List.length_nil, zV_0]
    | cons m L =>
      rw [List.length_cons] at h
      have hf := List.length_filter_le (fun k => !A m k) L
      rw [zW_cons]
      split
      · rw [List.length_cons, zV_cons, ih (L.filter (fun k => !A m k)) (by omega)]
        rfl
      · rename_i c
        obtain ⟨k, hk⟩ : ∃ k, (zW A L).length = k + 1 := ⟨(zW A L).length - 1, by omega⟩
        rw [hk, zV_cons]
        cases q : zV A k (L.filter (fun k => !A m k)) with
        | some P => have := zV_le q; omega
        | none =>
          show zV A (k + 1) L = some (zW A L)
          rw [← hk]
          exact ih L (by omega)
/-- if the first one fails, and at most one of the others is alike to it, all fail -/
theorem zV_stand {A : Nat → Nat → Bool} {m k : Nat} {L : List Nat} (h1 : zV A k (L.filter (fun k => !A m k)) = none) (h2 : (L.filter (fun k => A m k)).length ≤ 1) : zV A (k + 1) L = none := by
  cases q : zV A (k + 1) L with
  | none => rfl
  | some Q =>
    exfalso
    obtain ⟨⟨g1, g2⟩, g3⟩ := zV_row A L.length L (Nat.le_refl _) (k + 1) Q q
    have e1 := g1.filter (fun k => A m k)
    have e2 := e1.length_le
    have e3 : (Q.filter (fun k => A m k)).length + (Q.filter (fun k => !A m k)).length = Q.length := by
      clear e1 e2 g1 g2 g3 q
      induction Q with
      | nil => rfl
      | cons x Q ih =>
        rw [List.filter_cons, List.filter_cons]
        cases A m x <;> simp <;> omega
    have e4 := zW_max A (L.filter (fun k => !A m k)).length (L.filter (fun k => !A m k)) (Nat.le_refl _) (Q.filter (fun k => !A m k)) ⟨g1.filter _, g2.sublist List.filter_sublist⟩
    obtain ⟨P, hP⟩ := zV_some A (L.filter (fun k => !A m k)).length (L.filter (fun k => !A m k)) (Nat.le_refl _) k (by omega)
    rw [h1] at hP; cases hP
/-! how the reference goes through: what is best so far, by what is left and what is taken -/
theorem zR_step {A : Nat → Nat → Bool} {m : Nat} {L P B B1 B2 : List Nat} (hB1 : B1 = if B.length < P.length then P else B) (hB2 : B2 = if B1.length < ((P ++ [m]) ++ zW A (L.filter (fun k => !A m k))).length then (P ++ [m]) ++ zW A (L.filter (fun k => !A m k)) else B1) : (if B2.length < (P ++ zW A L).length then P ++ zW A L else B2) = if B.length < (P ++ zW A (m :: L)).length then P ++ zW A (m :: L) else B := by
  have l1 : ((P ++ [m]) ++ zW A (L.filter (fun k => !A m k))).length = P.length + 1 + (zW A (L.filter (fun k => !A m k))).length := by simp; omega
  have l2 : (P ++ zW A L).length = P.length + (zW A L).length := by simp
  have l3 : (P ++ [m]) ++ zW A (L.filter (fun k => !A m k)) = P ++ (m :: zW A (L.filter (fun k => !A m k))) := by simp
  have hle : (zW A (L.filter (fun k => !A m k))).length ≤ (zW A L).length := zW_mono List.filter_sublist
  rw [zW_cons]
  by_cases c1 : (zW A L).length ≤ (zW A (L.filter (fun k => !A m k))).length + 1
  · rw [if_pos c1]
    have l4 : (P ++ (m :: zW A (L.filter (fun k => !A m k)))).length = P.length + 1 + (zW A (L.filter (fun k => !A m k))).length := by rw [← l3]; exact l1
    by_cases c2 : B.length < P.length
    · rw [if_pos c2] at hB1
      subst hB1
      rw [if_pos (by omega), l3] at hB2
      subst hB2
      rw [if_neg (by omega), if_pos (by omega)]
    · rw [if_neg c2] at hB1
      subst hB1
      by_cases c3 : B1.length < P.length + 1 + (zW A (L.filter (fun k => !A m k))).length
      · rw [if_pos (by omega), l3] at hB2
        subst hB2
        rw [if_neg (by omega), if_pos (by omega)]
      · rw [if_neg (by omega)] at hB2
        subst hB2
        rw [if_neg (by omega), if_neg (by omega)]
  · rw [if_neg c1]
    by_cases c2 : B.length < P.length
    · rw [if_pos c2] at hB1
      subst hB1
      rw [if_pos (by omega)] at hB2
      subst hB2
      rw [if_pos (by omega), if_pos (by omega)]
    · rw [if_neg c2] at hB1
      subst hB1
      by_cases c3 : B1.length < P.length + 1 + (zW A (L.filter (fun k => !A m k))).length
      · rw [if_pos (by omega)] at hB2
        subst hB2
        rw [if_pos (by omega), if_pos (by omega)]
      · rw [if_neg (by omega)] at hB2
        subst hB2
        rfl
