/-! a rule as steps: 0 or, 1 and, 2 not, from 3 on tests -/
def zs1 (k : Nat) (v : Bool) (s : List Bool) : Option (List Bool) :=
  if k = 0 then (match s with | y :: x :: r => some ((x || y) :: r) | _ => none)
  else if k = 1 then (match s with | y :: x :: r => some ((x && y) :: r) | _ => none)
  else if k = 2 then (match s with | y :: r => some ((!y) :: r) | _ => none)
  else if s.length < 40 then some (v :: s) else none
def zx (f : Nat → Nat → Bool) : List (Nat × Nat) → List Bool → Option (List Bool)
  | [], s => some s
  | i :: is, s => (zs1 i.1 (f i.1 i.2) s).bind (zx f is)
theorem zx_app (f : Nat → Nat → Bool) : ∀ (A B : List (Nat × Nat)) (s : List Bool), zx f (A ++ B) s = (zx f A s).bind (zx f B)
  | [], B, s => by rw [List.nil_append, zx, z_sbind]
  | i :: A, B, s => by
    rw [List.cons_append, zx, zx]
    cases zs1 i.1 (f i.1 i.2) s with
    | none => rfl
    | some t => rw [z_sbind, z_sbind]; exact zx_app f A B t
/-- a level: or waits, and waits, so many nots wait -/
abbrev zLv : Type := Bool × Bool × Nat
def zod (k : Nat) : Bool := decide (k % 2 = 1)
def zeA (c : Bool) : List (Nat × Nat) := if c then [(1, 0)] else []
def zeO (c : Bool) : List (Nat × Nat) := if c then [(0, 0)] else []
def zeI (c : Bool) : List (Nat × Nat) := if c then [(2, 0)] else []
def zeN (k : Nat) : List (Nat × Nat) := List.replicate k (2, 0)
theorem zx_not (f : Nat → Nat → Bool) (v : Bool) (s : List Bool) : zx f [(2, 0)] (v :: s) = some ((!v) :: s) := rfl
theorem zx_and (f : Nat → Nat → Bool) (x y : Bool) (s : List Bool) : zx f [(1, 0)] (y :: x :: s) = some ((x && y) :: s) := rfl
theorem zx_or (f : Nat → Nat → Bool) (x y : Bool) (s : List Bool) : zx f [(0, 0)] (y :: x :: s) = some ((x || y) :: s) := rfl
theorem zx_leaf (f : Nat → Nat → Bool) {q x : Nat} {s : List Bool} (hq : 3 ≤ q) (hs : s.length < 40) : zx f [(q, x)] s = some (f q x :: s) := by
  show (zs1 q (f q x) s).bind (zx f []) = _
  unfold zs1
  rw [if_neg (by omega), if_neg (by omega), if_neg (by omega), if_pos hs]
  rfl
theorem zx_nots (f : Nat → Nat → Bool) : ∀ (k : Nat) (v : Bool) (s : List Bool), zx f (zeN k) (v :: s) = some ((v != zod k) :: s)
  | 0, v, s => by
    show some (v :: s) = _
    rw [show zod 0 = false from rfl]; cases v <;> rfl
  | k + 1, v, s => by
    have e : zeN (k + 1) = [(2, 0)] ++ zeN k := rfl
    rw [e, zx_app, zx_not, z_sbind, zx_nots f k (!v) s]
    have : zod (k + 1) = !zod k := by
      unfold zod
      by_cases c : k % 2 = 1
      · rw [decide_eq_true c, decide_eq_false (by omega)]; rfl
      · rw [decide_eq_false c, decide_eq_true (by omega)]; rfl
    rw [this]
    cases v <;> cases zod k <;> rfl
theorem zx_inv (f : Nat → Nat → Bool) (c v : Bool) (s : List Bool) : zx f (zeI c) (v :: s) = some ((v != c) :: s) := by
  cases c <;> cases v <;> rfl
def zdl (l : zLv) : Nat := l.1.toNat + l.2.1.toNat
def zD : List zLv → Nat
  | [] => 0
  | l :: P => zdl l + zD P
theorem zD_le : ∀ P : List zLv, zD P ≤ 2 * P.length
  | [] => Nat.le_refl _
  | l :: P => by
    have h := zD_le P
    have h1 : l.1.toNat ≤ 1 := Bool.toNat_le _
    have h2 : l.2.1.toNat ≤ 1 := Bool.toNat_le _
    rw [zD, List.length_cons]
    unfold zdl
    omega
def zrel (aw bo : Bool) (rs cs : List Bool) : Prop := if aw = false ∧ bo = true then ∃ x y s, rs = y :: x :: s ∧ cs = (x && y) :: s else rs = cs
def zok7 (f : Nat → Nat → Bool) : Prop := ∀ x, f 7 x = f 7 0
def zsem (CS RS : List (Nat × Nat)) (P : List zLv) (l : zLv) (aw : Bool) : Prop := ∀ f, zok7 f → ∃ rs cs, zx f RS [] = some rs ∧ zx f CS [] = some cs ∧ zrel aw l.2.1 rs cs ∧ rs.length = zD (l :: P) + (if aw then 0 else 1)
theorem zsem_0 : zsem [] [] [] (false, false, 0) true := fun f _ => ⟨[], [], rfl, rfl, by simp [zrel], rfl⟩
theorem zsem_not {CS RS : List (Nat × Nat)} {P : List zLv} {e bo : Bool} {k : Nat} (h : zsem CS RS P (e, bo, k) true) : zsem CS RS P (e, bo, k + 1) true := h
theorem zsem_open {CS RS : List (Nat × Nat)} {P : List zLv} {l : zLv} (h : zsem CS RS P l true) : zsem CS RS (l :: P) (false, false, 0) true := fun f hf => by
  obtain ⟨rs, cs, h1, h2, h3, h4⟩ := h f hf
  refine ⟨rs, cs, h1, h2, by simpa [zrel] using h3, ?_⟩
  rw [h4]
  show _ = 0 + 0 + zD (l :: P) + 0
  simp
theorem zx_end (f : Nat → Nat → Bool) (c bo v : Bool) (rs : List Bool) (h : bo = true → 0 < rs.length) : ∃ cs, zx f (zeI c ++ zeA bo) (v :: rs) = some cs ∧ zrel false bo ((v != c) :: rs) cs := by
  rw [zx_app, zx_inv, z_sbind]
  cases bo with
  | false => exact ⟨_, rfl, by simp [zrel]⟩
  | true =>
    cases rs with
    | nil => exact absurd (h rfl) (Nat.lt_irrefl 0)
    | cons x s => exact ⟨(x && (v != c)) :: s, rfl, by unfold zrel; rw [if_pos ⟨rfl, rfl⟩]; exact ⟨x, _, s, rfl, rfl⟩⟩
theorem zsem_leaf {CS RS : List (Nat × Nat)} {P : List zLv} {e bo : Bool} {k q x x2 : Nat} (h : zsem CS RS P (e, bo, k) true) (hP : P.length ≤ 4) (hq : 3 ≤ q) (hx : x = x2 ∨ q = 7) : zsem (CS ++ ([(q, x)] ++ (zeI (zod k) ++ zeA bo))) (RS ++ ([(q, x2)] ++ zeN k)) P (e, bo, 0) false := fun f hf => by
  obtain ⟨rs, cs, h1, h2, h3, h4⟩ := h f hf
  have hrc : rs = cs := by simpa [zrel] using h3
  subst hrc
  have hfx : f q x = f q x2 := by
    rcases hx with z | z
    · rw [z]
    · rw [z, hf x, hf x2]
  have hd := zD_le ((e, bo, k) :: P)
  rw [List.length_cons] at hd
  simp only [if_true] at h4
  have hlen : rs.length < 40 := by omega
  have r1 : zx f (RS ++ ([(q, x2)] ++ zeN k)) [] = some ((f q x2 != zod k) :: rs) := by
    rw [zx_app, h1, z_sbind, zx_app, zx_leaf f hq hlen, z_sbind, zx_nots]
  obtain ⟨c2, k1, k2⟩ := zx_end f (zod k) bo (f q x2) rs (fun z => by
    rw [h4, zD]
    unfold zdl
    rw [z]
    simp only [Bool.toNat_true]
    omega)
  refine ⟨_, c2, r1, ?_, k2, ?_⟩
  · rw [zx_app, h2, z_sbind, zx_app, zx_leaf f hq hlen, z_sbind, hfx, k1]
  · rw [List.length_cons, h4]
    rfl
theorem zsem_and {CS RS : List (Nat × Nat)} {P : List zLv} {e bo : Bool} (h : zsem CS RS P (e, bo, 0) false) : zsem CS (RS ++ zeA bo) P (e, true, 0) true := fun f hf => by
  obtain ⟨rs, cs, h1, h2, h3, h4⟩ := h f hf
  unfold zrel at h3
  cases bo with
  | false =>
    have e1 : rs = cs := by simpa using h3
    subst e1
    refine ⟨rs, rs, ?_, h2, by simp [zrel], ?_⟩
    · rw [zx_app, h1]; rfl
    · rw [h4]; simp [zD, zdl]; omega
  | true =>
    rw [if_pos ⟨rfl, rfl⟩] at h3
    obtain ⟨x, y, s, e1, e2⟩ := h3
    subst e1 e2
    refine ⟨(x && y) :: s, (x && y) :: s, ?_, h2, by simp [zrel], ?_⟩
    · rw [zx_app, h1]; rfl
    · rw [List.length_cons] at h4 ⊢
      rw [List.length_cons] at h4
      simp [zD, zdl] at h4 ⊢
      omega
/-- what waits at a level is done: both sides have the same on top -/
theorem zsem_flat {CS RS : List (Nat × Nat)} {P : List zLv} {e bo : Bool} (h : zsem CS RS P (e, bo, 0) false) (f : Nat → Nat → Bool) (hf : zok7 f) : ∃ v s, zx f (RS ++ (zeA bo ++ zeO e)) [] = some (v :: s) ∧ zx f (CS ++ zeO e) [] = some (v :: s) ∧ s.length = zD P := by
  obtain ⟨rs, cs, h1, h2, h3, h4⟩ := h f hf
  unfold zrel at h3
  have key : ∃ w t, zx f (RS ++ zeA bo) [] = some (w :: t) ∧ zx f CS [] = some (w :: t) ∧ t.length = e.toNat + zD P := by
    cases bo with
    | false =>
      have e1 : rs = cs := by simpa using h3
      subst e1
      cases rs with
      | nil => simp [zD, zdl] at h4
      | cons w t =>
        refine ⟨w, t, by rw [zx_app, h1]; rfl, h2, ?_⟩
        simp [zD, zdl] at h4
        omega
    | true =>
      rw [if_pos ⟨rfl, rfl⟩] at h3
      obtain ⟨x, y, s, e1, e2⟩ := h3
      subst e1 e2
      refine ⟨x && y, s, by rw [zx_app, h1]; rfl, h2, ?_⟩
      simp [zD, zdl] at h4
      omega
  obtain ⟨w, t, k1, k2, k3⟩ := key
  cases e with
  | false =>
    refine ⟨w, t, ?_, ?_, by simpa using k3⟩
    · rw [← List.append_assoc, zx_app, k1]; rfl
    · rw [zx_app, k2]; rfl
  | true =>
    cases t with
    | nil => simp at k3; omega
    | cons x t =>
      refine ⟨x || w, t, ?_, ?_, by simp at k3; omega⟩
      · rw [← List.append_assoc, zx_app, k1]; rfl
      · rw [zx_app, k2]; rfl
theorem zsem_or {CS RS : List (Nat × Nat)} {P : List zLv} {e bo : Bool} (h : zsem CS RS P (e, bo, 0) false) : zsem (CS ++ zeO e) (RS ++ (zeA bo ++ zeO e)) P (true, false, 0) true := fun f hf => by
  obtain ⟨v, s, k1, k2, k3⟩ := zsem_flat h f hf
  refine ⟨_, _, k1, k2, by simp [zrel], ?_⟩
  rw [List.length_cons, k3]
  simp [zD, zdl]
  omega
theorem zsem_close {CS RS : List (Nat × Nat)} {P : List zLv} {e bo e1 bo1 : Bool} {k1 : Nat} (h : zsem CS RS ((e1, bo1, k1) :: P) (e, bo, 0) false) : zsem ((CS ++ zeO e) ++ (zeI (zod k1) ++ zeA bo1)) ((RS ++ (zeA bo ++ zeO e)) ++ zeN k1) P (e1, bo1, 0) false := fun f hf => by
  obtain ⟨v, s, j1, j2, j3⟩ := zsem_flat h f hf
  obtain ⟨c2, q1, q2⟩ := zx_end f (zod k1) bo1 v s (fun z => by
    rw [j3, zD]
    unfold zdl
    rw [z]
    simp only [Bool.toNat_true]
    omega)
  refine ⟨(v != zod k1) :: s, c2, ?_, ?_, q2, ?_⟩
  · rw [zx_app, j1, z_sbind, zx_nots]
  · rw [zx_app, j2, z_sbind, q1]
  · rw [List.length_cons, j3]
    rfl
theorem zsem_end {CS RS : List (Nat × Nat)} {e bo : Bool} (h : zsem CS RS [] (e, bo, 0) false) : ∀ f, zok7 f → ∃ v, zx f (RS ++ (zeA bo ++ zeO e)) [] = some [v] ∧ zx f (CS ++ zeO e) [] = some [v] := fun f hf => by
  obtain ⟨v, s, k1, k2, k3⟩ := zsem_flat h f hf
  have : s = [] := List.eq_nil_of_length_eq_zero k3
  subst this
  exact ⟨v, k1, k2⟩
