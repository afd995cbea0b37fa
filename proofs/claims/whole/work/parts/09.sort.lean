def ln_kr (k : Int32) : Prop := 0 ≤ k.toInt ∧ k.toInt < 16
def ln_le2 (k v k' v' : Int32) : Prop := k.toInt < k'.toInt ∨ (k = k' ∧ v.toInt ≤ v'.toInt)
/-- in order by key, then by value; every key 0 to 15 -/
def ln_Gd (D : ln_D) : Prop := match D with
  | none => True
  | some (n, K, V) => (∀ i, i < n → ln_kr (K i)) ∧ ∀ i, i + 1 < n → ln_le2 (K i) (V i) (K (i + 1)) (V (i + 1))
theorem ln_po_hi (k v : Int32) (K V : Nat → Int32) : ∀ n j, ln_po k v K V n ≤ j → j < n → (k < K j ∨ (k = K j ∧ v < V j)) := by
  intro n
  induction n with
  | zero => intro j _ h; exact absurd h (by omega)
  | succ n ih =>
    intro j h1 h2
    unfold ln_po at h1
    split at h1
    · by_cases e : j = n
      · subst e; assumption
      · exact ih j h1 (by omega)
    · omega
theorem ln_po_lo (k v : Int32) (K V : Nat → Int32) : ∀ n q, ln_po k v K V n = q + 1 → ¬ (k < K q ∨ (k = K q ∧ v < V q)) := by
  intro n
  induction n with
  | zero => intro q h; exact absurd h (by unfold ln_po; omega)
  | succ n ih =>
    intro q h
    unfold ln_po at h
    split at h
    · exact ih q h
    · have : n = q := by omega
      subst this; assumption
theorem ln_lt_le2 {k v k' v' : Int32} (h : k < k' ∨ (k = k' ∧ v < v')) : ln_le2 k v k' v' := by
  rcases h with h | ⟨h, h2⟩
  · exact Or.inl (Int32.lt_iff_toInt_lt.mp h)
  · exact Or.inr ⟨h, Int.le_of_lt (Int32.lt_iff_toInt_lt.mp h2)⟩
theorem ln_nlt_le2 {k v k' v' : Int32} (h : ¬ (k < k' ∨ (k = k' ∧ v < v'))) : ln_le2 k' v' k v := by
  by_cases e : k = k'
  · refine Or.inr ⟨e.symm, ?_⟩
    have : ¬ v < v' := fun z => h (Or.inr ⟨e, z⟩)
    rw [Int32.lt_iff_toInt_lt] at this
    omega
  · refine Or.inl ?_
    have h1 : ¬ k < k' := fun z => h (Or.inl z)
    rw [Int32.lt_iff_toInt_lt] at h1
    have h2 : k.toInt ≠ k'.toInt := fun z => e (Int32.toInt_inj.mp z)
    omega
theorem ln_Gd_ap {D : ln_D} {p : Int32 × Int32} (hp : ln_kr p.1) (h : ln_Gd D) : ln_Gd (ln_ap D p) := by
  obtain ⟨k, v⟩ := p
  match D, h with
  | none, h => trivial
  | some (n, K, V), h =>
    show ln_Gd (if n < 48 then some (n + 1, ln_sh (ln_po k v K V n) k K, ln_sh (ln_po k v K V n) v V) else none)
    split
    · have hl := ln_po_le k v K V n
      have hhi := ln_po_hi k v K V n
      have hlo := ln_po_lo k v K V n
      generalize ln_po k v K V n = q at hl hhi hlo
      refine ⟨fun i hi => ?_, fun i hi => ?_⟩
      · unfold ln_sh
        split
        · exact h.1 i (by omega)
        · split
          · exact hp
          · exact h.1 (i - 1) (by omega)
      · unfold ln_sh
        by_cases c1 : i + 1 < q
        · rw [if_pos (by omega), if_pos c1, if_pos (by omega), if_pos c1]
          exact h.2 i (by omega)
        · by_cases c2 : i + 1 = q
          · rw [if_pos (by omega), if_neg c1, if_pos c2, if_pos (by omega), if_neg c1, if_pos c2]
            exact ln_nlt_le2 (hlo i c2.symm)
          · by_cases c3 : i = q
            · simp only [if_neg (show ¬ i < q by omega), if_pos c3, if_neg c1, if_neg c2]
              exact ln_lt_le2 (hhi i (by omega) (by omega))
            · simp only [if_neg (show ¬ i < q by omega), if_neg c3, if_neg c1, if_neg c2]
              have := h.2 (i - 1) (by omega)
              rw [show i - 1 + 1 = i by omega] at this
              exact this
    · trivial
theorem ln_Gd_fo {l : ln_L} : ∀ {D : ln_D}, (∀ p, p ∈ l → ln_kr p.1) → ln_Gd D → ln_Gd (ln_fo D l) := by
  induction l with
  | nil => intro D _ h; exact h
  | cons p l ih =>
    intro D hp h
    exact ih (D := ln_ap D p) (fun q hq => hp q (List.mem_cons_of_mem _ hq)) (ln_Gd_ap (hp p List.mem_cons_self) h)
theorem ln_Gd_e0 : ln_Gd ln_e0 := ⟨fun i hi => absurd hi (by omega), fun i hi => absurd hi (by omega)⟩
theorem ln_kr_and (x : Int32) : ln_kr (x &&& 15) := by
  obtain ⟨j, hj, e⟩ := pk_andE x (m := 15) 4 (by decide)
  rw [e]
  unfold ln_kr
  rw [nI_toInt (by omega)]
  omega
theorem ln_Gd_sq {D : ln_D} {g : Nat → ln_L} {n : Nat} (hg : ∀ i, i < n → ∀ p, p ∈ g i → ln_kr p.1) (h : ln_Gd D) : ln_Gd (ln_fo D (ln_sq g n 0)) := by
  refine ln_Gd_fo (fun p hp => ?_) h
  obtain ⟨j, _, h2, h3⟩ := ln_sq_mem _ _ hp
  exact hg j (by omega) p h3
theorem ln_one {p q : Int32 × Int32} {c : Prop} [Decidable c] {k : Int32} (hk : ln_kr k) (hq : q.1 = k) (h : p ∈ (if c then [q] else [])) : ln_kr p.1 := by
  split at h
  · rw [List.mem_singleton.mp h, hq]; exact hk
  · exact absurd h List.not_mem_nil
theorem ln_one' {p q : Int32 × Int32} {c : Prop} [Decidable c] {k : Int32} (hk : ln_kr k) (hq : q.1 = k) (h : p ∈ (if c then [] else [q])) : ln_kr p.1 := by
  split at h
  · exact absurd h List.not_mem_nil
  · rw [List.mem_singleton.mp h, hq]; exact hk
theorem ln_kr_g4 {t : Nat} {K V : Nat → Int32} {i : Nat} (hk : ln_kr (K i)) {p : Int32 × Int32} (h : p ∈ ln_g4 t K V i) : ln_kr p.1 := by
  obtain ⟨j, _, _, h3⟩ := ln_sq_mem _ _ h
  rw [List.mem_singleton.mp h3]
  exact hk
theorem ln_Gd_rs {T : Nat → ln_D} {o x a b : Int32} {gl : ln_L} (hx : ¬ o = 0 → ln_Gd (T x.toNatClampNeg)) (ha : (o = 5 ∨ o = 7 ∨ o = 9) → ln_Gd (T a.toNatClampNeg)) (hg : ∀ p, p ∈ gl → ln_kr p.1) : ln_Gd (ln_rs T o x a b gl) := by
  unfold ln_rs
  split
  · exact ln_Gd_fo hg ln_Gd_e0
  · rename_i h0
    have hx := hx h0
    split
    · trivial
    · rename_i n K V e
      rw [e] at hx
      have hk := hx.1
      split
      · rename_i h2
        have ha := ha h2
        split
        · trivial
        · rename_i m K' V' e2
          rw [e2] at ha
          split
          · exact ln_Gd_sq (fun i hi p hp => ln_kr_g4 (ha.1 i hi) hp) (ln_Gd_sq (fun i hi p hp => ln_kr_g4 (hk i hi) hp) ln_Gd_e0)
          · split
            · refine ln_Gd_sq (fun i hi p hp => ?_) ln_Gd_e0
              obtain ⟨j, _, _, h3⟩ := ln_sq_mem _ _ hp
              exact ln_one (hk i hi) rfl h3
            · exact ln_Gd_sq (fun i hi p hp => ln_one (hk i hi) rfl hp) ln_Gd_e0
      · split
        · refine ln_Gd_sq (fun i hi p hp => ?_) ln_Gd_e0
          rw [List.mem_singleton.mp hp]
          exact hk i hi
        · split
          · exact ln_Gd_sq (fun i hi p hp => ln_one' (hk i hi) rfl hp) ln_Gd_e0
          · split
            · refine ln_Gd_sq (fun i hi p hp => ?_) ln_Gd_e0
              rw [List.mem_singleton.mp hp]
              exact ln_kr_and _
            · split
              · exact ln_Gd_sq (fun i hi p hp => ln_kr_g4 (hk i hi) hp) ln_Gd_e0
              · split
                · exact ln_Gd_sq (fun i hi p hp => ln_one (hk i hi) rfl hp) ln_Gd_e0
                · split
                  · exact ln_Gd_sq (fun i hi p hp => ln_one (hk i hi) rfl hp) ln_Gd_e0
                  · split
                    · exact ln_Gd_sq (fun i hi p hp => ln_one' (hk i hi) rfl hp) ln_Gd_e0
                    · refine ln_Gd_sq (fun i hi p hp => ?_) ln_Gd_e0
                      rw [List.mem_singleton.mp hp]
                      exact ln_kr_and _
theorem ln_mono {n : Nat} {K V : Nat → Int32} (h : ln_Gd (some (n, K, V))) {i : Nat} : ∀ t, i + t < n → (K i).toInt ≤ (K (i + t)).toInt ∧ (K i = K (i + t) → (V i).toInt ≤ (V (i + t)).toInt) := by
  intro t
  induction t with
  | zero => intro _; exact ⟨Int.le_refl _, fun _ => Int.le_refl _⟩
  | succ t ih =>
    intro ht
    obtain ⟨h1, h2⟩ := ih (by omega)
    have h3 : ln_le2 (K (i + t)) (V (i + t)) (K (i + (t + 1))) (V (i + (t + 1))) := h.2 (i + t) (by omega)
    rcases h3 with h3 | ⟨h3, h4⟩
    · refine ⟨by omega, fun z => ?_⟩
      rw [z] at h1
      omega
    · rw [← h3]
      exact ⟨h1, fun z => Int.le_trans (h2 z) h4⟩
theorem ln_bhY {n i : Nat} {K V : Nat → Int32} (h : ln_Gd (some (n, K, V))) (hi : i < n) :
    ln_ct (fun j => decide (V i < V j ∨ (V j = V i ∧ (K i < K j ∨ (K j = K i ∧ i < j))))) n 0 = ln_bh V n i := by
  refine ln_ct_cg n 0 fun j _ hj => ?_
  rw [decide_eq_decide]
  have hj : j < n := by omega
  constructor
  · rintro (z | ⟨z, z2⟩)
    · exact Or.inl z
    · refine Or.inr ⟨z, ?_⟩
      rcases z2 with z2 | z2
      · have z3 := Int32.lt_iff_toInt_lt.mp z2
        by_cases c : i < j
        · exact c
        · have := (ln_mono h (i := j) (i - j) (by omega)).1
          rw [show j + (i - j) = i by omega] at this
          omega
      · exact z2.2
  · rintro (z | ⟨z, z2⟩)
    · exact Or.inl z
    · refine Or.inr ⟨z, ?_⟩
      have h1 := (ln_mono h (i := i) (j - i) (by omega)).1
      rw [show i + (j - i) = j by omega] at h1
      by_cases c : K j = K i
      · exact Or.inr ⟨c, z2⟩
      · refine Or.inl (Int32.lt_iff_toInt_lt.mpr ?_)
        have : (K j).toInt ≠ (K i).toInt := fun z => c (Int32.toInt_inj.mp z)
        omega
