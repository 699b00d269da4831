/-! which is ahead of which -/
theorem z_pig : ∀ (l1 l2 : List Nat), l1.Nodup → (∀ x ∈ l1, x ∈ l2) → l1.length ≤ l2.length
  | [], l2, _, _ => Nat.zero_le _
  | x :: l1, l2, h, hs => by
    obtain ⟨hx, hn⟩ := List.nodup_cons.mp h
    have hm := hs x List.mem_cons_self
    have := z_pig l1 (l2.erase x) hn (fun y hy => by
      have hne : y ≠ x := fun z => hx (z ▸ hy)
      exact (List.mem_erase_of_ne hne).mpr (hs y (List.mem_cons_of_mem _ hy)))
    rw [List.length_erase_of_mem hm] at this
    have h0 : 0 < l2.length := List.length_pos_of_mem hm
    rw [List.length_cons]
    omega
def zbf (c : Nat → Int64) (j k : Nat) : Bool := decide ((c k).toInt < (c j).toInt) || (decide ((c j).toInt = (c k).toInt) && decide (j < k))
theorem zbf_iff {c : Nat → Int64} {j k : Nat} : zbf c j k = true ↔ (c k).toInt < (c j).toInt ∨ ((c j).toInt = (c k).toInt ∧ j < k) := by
  simp [zbf]
def zfl (p : Nat → Bool) (i r : Nat) : Nat := ((List.range' i r).filter p).length
theorem zfl_0 (p : Nat → Bool) (i : Nat) : zfl p i 0 = 0 := rfl
theorem zfl_s (p : Nat → Bool) (i r : Nat) : zfl p i (r + 1) = (if p i then 1 else 0) + zfl p (i + 1) r := by
  unfold zfl
  rw [List.range'_succ, List.filter_cons]
  split
  · rw [List.length_cons]; omega
  · omega
theorem zfl_le (p : Nat → Bool) (i r : Nat) : zfl p i r ≤ r := by
  have := List.length_filter_le p (List.range' i r)
  rwa [List.length_range'] at this
def zrk (c : Nat → Int64) (len k : Nat) : Nat := zfl (fun j => zbf c j k) 0 len
def zps (c : Nat → Int64) (len : Nat) : Nat := zfl (fun j => decide (0 < (c j).toInt)) 0 len
theorem zrg_nd (p : Nat → Bool) (len : Nat) : ((List.range' 0 len).filter p).Nodup := List.Pairwise.filter _ List.nodup_range'
theorem zrg_mem {p : Nat → Bool} {len x : Nat} : x ∈ (List.range' 0 len).filter p ↔ x < len ∧ p x = true := by
  rw [List.mem_filter, List.mem_range'_1]
  constructor
  · rintro ⟨⟨-, h1⟩, h2⟩; exact ⟨by omega, h2⟩
  · rintro ⟨h1, h2⟩; exact ⟨⟨by omega, by omega⟩, h2⟩
theorem zrk_lt {c : Nat → Int64} {len k q : Nat} (hk : k < len) (h : zbf c k q = true) : zrk c len k < zrk c len q := by
  refine z_pig (k :: (List.range' 0 len).filter (fun j => zbf c j k)) ((List.range' 0 len).filter (fun j => zbf c j q)) (List.nodup_cons.mpr ⟨fun z => ?_, zrg_nd _ _⟩) (fun x hx => ?_)
  · have := zbf_iff.mp (zrg_mem.mp z).2
    omega
  · rw [zrg_mem]
    rcases List.mem_cons.mp hx with rfl | z
    · exact ⟨hk, h⟩
    · obtain ⟨h1, h2⟩ := zrg_mem.mp z
      refine ⟨h1, ?_⟩
      rw [zbf_iff] at *
      omega
theorem zrk_ps {c : Nat → Int64} {len k : Nat} (hk : k < len) (h : 0 < (c k).toInt) : zrk c len k < zps c len := by
  refine z_pig (k :: (List.range' 0 len).filter (fun j => zbf c j k)) ((List.range' 0 len).filter (fun j => decide (0 < (c j).toInt))) (List.nodup_cons.mpr ⟨fun z => ?_, zrg_nd _ _⟩) (fun x hx => ?_)
  · have := zbf_iff.mp (zrg_mem.mp z).2
    omega
  · rw [zrg_mem]
    rcases List.mem_cons.mp hx with rfl | z
    · exact ⟨hk, by simp [h]⟩
    · obtain ⟨h1, h2⟩ := zrg_mem.mp z
      refine ⟨h1, ?_⟩
      rw [zbf_iff] at h2
      simp only [decide_eq_true_eq]
      omega
theorem zrk_inj {c : Nat → Int64} {len k q : Nat} (hk : k < len) (hq : q < len) (h : zrk c len k = zrk c len q) : k = q := by
  by_cases e : k = q
  · exact e
  · exfalso
    have : zbf c k q = true ∨ zbf c q k = true := by
      rw [zbf_iff, zbf_iff]; omega
    rcases this with z | z
    · have := zrk_lt hk z; omega
    · have := zrk_lt hq z; omega
/-- those told so far, each ahead of all that are not told -/
def ztd (c : Nat → Int64) (len : Nat) (L : List Nat) : Prop := L.Nodup ∧ (∀ x ∈ L, x < len ∧ 0 < (c x).toInt) ∧ ∀ x ∈ L, ∀ y, y < len → y ∉ L → zbf c x y = true
def zc2 (c : Nat → Int64) (L : List Nat) (k : Nat) : Int64 := if k ∈ L then 0 else c k
theorem ztd_step {c : Nat → Int64} {len q : Nat} {L : List Nat} (h : ztd c len L) (hl : L.length < zps c len) (hq : q < len) (hm : ∀ y, y < len → y ≠ q → zbf (zc2 c L) q y = true) : q ∉ L ∧ 0 < (c q).toInt ∧ zrk c len q = L.length ∧ ztd c len (L ++ [q]) := by
  have e0 : (0 : Int64).toInt = 0 := rfl
  have hex : ∃ p, p < len ∧ 0 < (c p).toInt ∧ p ∉ L := by
    refine Classical.byContradiction fun hn => ?_
    have := z_pig ((List.range' 0 len).filter (fun j => decide (0 < (c j).toInt))) L (zrg_nd _ _) (fun x hx => by
      obtain ⟨h1, h2⟩ := zrg_mem.mp hx
      exact Classical.byContradiction fun hx2 => hn ⟨x, h1, by simpa using h2, hx2⟩)
    have h2 : zps c len = ((List.range' 0 len).filter (fun j => decide (0 < (c j).toInt))).length := rfl
    omega
  obtain ⟨p, p1, p2, p3⟩ := hex
  have ep : zc2 c L p = c p := if_neg p3
  have hqp : 0 < (zc2 c L q).toInt := by
    by_cases e : p = q
    · subst e; rw [ep]; exact p2
    · have := zbf_iff.mp (hm p p1 e)
      rw [ep] at this
      omega
  have hqL : q ∉ L := fun z => by
    have : zc2 c L q = 0 := if_pos z
    rw [this] at hqp
    omega
  have eq : zc2 c L q = c q := if_neg hqL
  rw [eq] at hqp
  have hout : ∀ y, y < len → y ∉ L → y ≠ q → zbf c q y = true := fun y hy hyL hyq => by
    have h3 := hm y hy hyq
    rw [zbf_iff] at h3 ⊢
    rw [eq, show zc2 c L y = c y from if_neg hyL] at h3
    exact h3
  refine ⟨hqL, hqp, ?_, ?_, ?_, ?_⟩
  · have h1 : zrk c len q ≤ L.length := z_pig ((List.range' 0 len).filter (fun j => zbf c j q)) L (zrg_nd _ _) (fun x hx => by
      obtain ⟨x1, x2⟩ := zrg_mem.mp hx
      refine Classical.byContradiction fun hx2 => ?_
      by_cases e : x = q
      · subst e; have := zbf_iff.mp x2; omega
      · have h4 := zbf_iff.mp (hout x x1 hx2 e)
        have h5 := zbf_iff.mp x2
        omega)
    have h2 : L.length ≤ zrk c len q := z_pig L ((List.range' 0 len).filter (fun j => zbf c j q)) h.1 (fun x hx => zrg_mem.mpr ⟨(h.2.1 x hx).1, h.2.2 x hx q hq hqL⟩)
    omega
  · rw [List.nodup_append]
    refine ⟨h.1, by simp, fun x hx y hy => ?_⟩
    rw [List.mem_singleton] at hy
    subst hy
    exact fun z => hqL (z ▸ hx)
  · intro x hx
    rcases List.mem_append.mp hx with z | z
    · exact h.2.1 x z
    · rw [List.mem_singleton.mp z]; exact ⟨hq, hqp⟩
  · intro x hx y hy hyn
    have hyL : y ∉ L := fun z => hyn (List.mem_append_left _ z)
    have hyq : y ≠ q := fun z => hyn (List.mem_append_right _ (by rw [z]; exact List.mem_singleton_self q))
    rcases List.mem_append.mp hx with z | z
    · exact h.2.2 x z y hy hyL
    · rw [List.mem_singleton.mp z]; exact hout y hy hyL hyq
