def ln_ct (p : Nat → Bool) : Nat → Nat → Nat
  | 0, _ => 0
  | m + 1, i => (if p i = true then 1 else 0) + ln_ct p m (i + 1)
def ln_sm (V : Nat → Int32) : Nat → Nat → Int32 → Int32
  | 0, _, a => a
  | m + 1, i, a => ln_sm V m (i + 1) (a + V i)
def ln_g1 (a b : Int32) (K V : Nat → Int32) (i : Nat) : ln_L := [(K i, V i * a + b)]
def ln_g2 (a : Int32) (K V : Nat → Int32) (i : Nat) : ln_L := if V i < a then [] else [(K i, V i)]
def ln_g3 (a b : Int32) (K V : Nat → Int32) (i : Nat) : ln_L := [((K i * a + b) &&& 15, V i)]
def ln_g4 (t : Nat) (K V : Nat → Int32) (i : Nat) : ln_L := ln_sq (fun _ => [(K i, V i)]) t 0
def ln_g7 (m : Nat) (K' V' K V : Nat → Int32) (i : Nat) : ln_L := ln_sq (fun j => if K i = K' j then [(K i, V i + V' j)] else []) m 0
def ln_g8 (K V : Nat → Int32) (i : Nat) : ln_L := if i = 0 ∨ ¬ K i = K (i - 1) ∨ ¬ V i = V (i - 1) then [(K i, V i)] else []
def ln_g9 (m : Nat) (K' K V : Nat → Int32) (i : Nat) : ln_L := if ln_ct (fun j => decide (K' j = K i)) m 0 = 0 then [(K i, V i)] else []
def ln_bh (V : Nat → Int32) (n i : Nat) : Nat := ln_ct (fun j => decide (V i < V j ∨ (V j = V i ∧ i < j))) n 0
def ln_ga (a : Int32) (n : Nat) (K V : Nat → Int32) (i : Nat) : ln_L := if a ≤ nI (ln_bh V n i) then [] else [(K i, V i)]
def ln_gb (K V : Nat → Int32) (i : Nat) : ln_L := [(V i &&& 15, K i)]
def ln_fk (K : Nat → Int32) : Nat → Nat
  | 0 => 0
  | i + 1 => if K (i + 1) = K i then ln_fk K i else i + 1
def ln_fv (how : Int32) (V : Nat → Int32) (f e : Nat) : Int32 := if how = 1 then V f else if how = 2 then V (e - 1) else if how = 3 then nI (e - f) else ln_sm V (e - f) f 0
def ln_g6 (how : Int32) (n : Nat) (K V : Nat → Int32) (i : Nat) : ln_L := if i + 1 = n ∨ ¬ K (i + 1) = K i then [(K i, ln_fv how V (ln_fk K i) (i + 1))] else []
/-- what a data set is, by its recipe and the ones ahead of it -/
def ln_rs (T : Nat → ln_D) (o x a b : Int32) (gl : ln_L) : ln_D :=
  if o = 0 then ln_fo ln_e0 gl else match T x.toNatClampNeg with
  | none => none
  | some (n, K, V) =>
    if o = 5 ∨ o = 7 ∨ o = 9 then match T a.toNatClampNeg with
      | none => none
      | some (m, K', V') =>
        if o = 5 then ln_fo (ln_fo ln_e0 (ln_sq (ln_g4 1 K V) n 0)) (ln_sq (ln_g4 1 K' V') m 0)
        else if o = 7 then ln_fo ln_e0 (ln_sq (ln_g7 m K' V' K V) n 0)
        else ln_fo ln_e0 (ln_sq (ln_g9 m K' K V) n 0)
    else if o = 1 then ln_fo ln_e0 (ln_sq (ln_g1 a b K V) n 0)
    else if o = 2 then ln_fo ln_e0 (ln_sq (ln_g2 a K V) n 0)
    else if o = 3 then ln_fo ln_e0 (ln_sq (ln_g3 a b K V) n 0)
    else if o = 4 then ln_fo ln_e0 (ln_sq (ln_g4 a.toNatClampNeg K V) n 0)
    else if o = 6 then ln_fo ln_e0 (ln_sq (ln_g6 a n K V) n 0)
    else if o = 8 then ln_fo ln_e0 (ln_sq (ln_g8 K V) n 0)
    else if o = 10 then ln_fo ln_e0 (ln_sq (ln_ga a n K V) n 0)
    else ln_fo ln_e0 (ln_sq (ln_gb K V) n 0)
theorem ln_ct_le (p : Nat → Bool) : ∀ m i, ln_ct p m i ≤ m := by
  intro m
  induction m with
  | zero => intro i; exact Nat.le_refl _
  | succ m ih =>
    intro i
    have := ih (i + 1)
    unfold ln_ct
    split <;> omega
theorem ln_ct_cg {p q : Nat → Bool} : ∀ m i, (∀ j, i ≤ j → j < i + m → p j = q j) → ln_ct p m i = ln_ct q m i := by
  intro m
  induction m with
  | zero => intro i _; rfl
  | succ m ih =>
    intro i h
    unfold ln_ct
    rw [h i (Nat.le_refl _) (by omega), ih (i + 1) (fun j h1 h2 => h j (by omega) (by omega))]
theorem ln_sq_cg {g g' : Nat → ln_L} : ∀ m i, (∀ j, i ≤ j → j < i + m → g j = g' j) → ln_sq g m i = ln_sq g' m i := by
  intro m
  induction m with
  | zero => intro i _; rfl
  | succ m ih =>
    intro i h
    unfold ln_sq
    rw [h i (Nat.le_refl _) (by omega), ih (i + 1) (fun j h1 h2 => h j (by omega) (by omega))]
theorem ln_sq_mem {g : Nat → ln_L} {p : Int32 × Int32} : ∀ m i, p ∈ ln_sq g m i → ∃ j, i ≤ j ∧ j < i + m ∧ p ∈ g j := by
  intro m
  induction m with
  | zero => intro i h; exact absurd h (by unfold ln_sq; exact List.not_mem_nil)
  | succ m ih =>
    intro i h
    unfold ln_sq at h
    rcases List.mem_append.mp h with h | h
    · exact ⟨i, Nat.le_refl _, by omega, h⟩
    · obtain ⟨j, h1, h2, h3⟩ := ih (i + 1) h
      exact ⟨j, by omega, by omega, h3⟩
