/-- one pair more of the key, as the reference folds it -/
def ln_ys (how : Int32) (c : Nat) (m v : Int32) : Int32 := if how = 0 then m + v else if how = 3 then m + 1 else if c = 0 ∨ (how = 1 ∧ v < m) ∨ (how = 2 ∧ m < v) then v else m
def ln_yg (how k : Int32) (K V : Nat → Int32) : Nat → Nat → Nat → Int32 → Nat × Int32
  | 0, _, c, m => (c, m)
  | l + 1, i, c, m => if K i = k then ln_yg how k K V l (i + 1) (c + 1) (ln_ys how c m (V i)) else ln_yg how k K V l (i + 1) c m
def ln_gY (how : Int32) (n : Nat) (K V : Nat → Int32) (k : Nat) : ln_L := if (ln_yg how (nI k) K V n 0 0 0).1 = 0 then [] else [(nI k, (ln_yg how (nI k) K V n 0 0 0).2)]
theorem ln_sq_spl (g : Nat → ln_L) (b : Nat) : ∀ a i, ln_sq g (a + b) i = ln_sq g a i ++ ln_sq g b (i + a) := by
  intro a
  induction a with
  | zero => intro i; rw [Nat.zero_add]; rfl
  | succ a ih =>
    intro i
    rw [show a + 1 + b = a + b + 1 by omega]
    show g i ++ ln_sq g (a + b) (i + 1) = (g i ++ ln_sq g a (i + 1)) ++ ln_sq g b (i + (a + 1))
    rw [ih (i + 1), List.append_assoc, show i + 1 + a = i + (a + 1) by omega]
theorem ln_sm_snoc (V : Nat → Int32) : ∀ l i a, ln_sm V (l + 1) i a = ln_sm V l i a + V (i + l) := by
  intro l
  induction l with
  | zero => intro i a; rfl
  | succ l ih =>
    intro i a
    show ln_sm V (l + 1) (i + 1) (a + V i) = ln_sm V l (i + 1) (a + V i) + V (i + (l + 1))
    rw [ih, show i + 1 + l = i + (l + 1) by omega]
theorem ln_yg_skip {how k : Int32} {K V : Nat → Int32} {r : Nat} {m : Int32} {c : Nat} : ∀ l i, (∀ j, i ≤ j → j < i + l → ¬ K j = k) → ln_yg how k K V (l + r) i c m = ln_yg how k K V r (i + l) c m := by
  intro l
  induction l with
  | zero => intro i _; rw [Nat.zero_add]; rfl
  | succ l ih =>
    intro i h
    rw [show l + 1 + r = l + r + 1 by omega]
    show (if K i = k then ln_yg how k K V (l + r) (i + 1) (c + 1) (ln_ys how c m (V i)) else ln_yg how k K V (l + r) (i + 1) c m) = _
    rw [if_neg (h i (Nat.le_refl _) (by omega)), ih (i + 1) (fun j h1 h2 => h j (by omega) (by omega)), show i + 1 + l = i + (l + 1) by omega]
theorem ln_ys_fv {t n p i : Nat} {K V : Nat → Int32} (ht : t ≤ 3) (h : ln_Gd (some (n, K, V))) (hp : p ≤ i) (hi : i < n) (hk : ∀ j, p ≤ j → j ≤ i → K j = K p) :
    ln_ys (nI t) (i - p) (if i = p then 0 else ln_fv (nI t) V p i) (V i) = ln_fv (nI t) V p (i + 1) := by
  have hm1 := (ln_mono h (i := p) (i - p) (by omega)).2
  rw [show p + (i - p) = i by omega] at hm1
  have hm1 := hm1 (hk i hp (Nat.le_refl _)).symm
  match t, ht with
  | 0, _ =>
    show (if i = p then 0 else ln_sm V (i - p) p 0) + V i = ln_sm V (i + 1 - p) p 0
    rw [show i + 1 - p = i - p + 1 by omega, ln_sm_snoc, show p + (i - p) = i by omega]
    by_cases e : i = p
    · rw [if_pos e, e, Nat.sub_self]
      rfl
    · rw [if_neg e]
  | 1, _ =>
    show (if i - p = 0 ∨ ((nI 1 : Int32) = 1 ∧ V i < (if i = p then 0 else V p)) ∨ ((nI 1 : Int32) = 2 ∧ (if i = p then 0 else V p) < V i) then V i else (if i = p then 0 else V p)) = V p
    by_cases e : i = p
    · rw [if_pos (Or.inl (by omega)), e]
    · rw [if_neg, if_neg e]
      rintro (z | ⟨_, z⟩ | ⟨z, _⟩)
      · omega
      · rw [if_neg e, Int32.lt_iff_toInt_lt] at z
        omega
      · exact absurd z (by decide)
  | 2, _ =>
    show (if i - p = 0 ∨ ((nI 2 : Int32) = 1 ∧ V i < (if i = p then 0 else V (i - 1))) ∨ ((nI 2 : Int32) = 2 ∧ (if i = p then 0 else V (i - 1)) < V i) then V i else (if i = p then 0 else V (i - 1))) = V i
    by_cases e : i = p
    · rw [if_pos (Or.inl (by omega))]
    · rw [if_neg e]
      have hm2 := (ln_mono h (i := i - 1) 1 (by omega)).2
      rw [show i - 1 + 1 = i by omega] at hm2
      have hm2 := hm2 ((hk (i - 1) (by omega) (by omega)).trans (hk i hp (Nat.le_refl _)).symm)
      by_cases c : V (i - 1) < V i
      · rw [if_pos (Or.inr (Or.inr ⟨rfl, c⟩))]
      · rw [if_neg]
        · rw [Int32.lt_iff_toInt_lt] at c
          exact Int32.toInt_inj.mp (by omega)
        · rintro (z | ⟨z, _⟩ | ⟨_, z⟩)
          · omega
          · exact absurd z (by decide)
          · exact c z
  | 3, _ =>
    show (if i = p then 0 else nI (i - p)) + 1 = nI (i + 1 - p)
    by_cases e : i = p
    · rw [if_pos e, e, show p + 1 - p = 1 by omega]
      rfl
    · rw [if_neg e, nI_1, show i + 1 - p = i - p + 1 by omega]
theorem ln_yg_run {t n p q r : Nat} {K V : Nat → Int32} (ht : t ≤ 3) (h : ln_Gd (some (n, K, V))) (hq : q ≤ n) (hk : ∀ j, p ≤ j → j < q → K j = K p) :
    ∀ l i, p ≤ i → i + l = q → ln_yg (nI t) (K p) K V (l + r) i (i - p) (if i = p then 0 else ln_fv (nI t) V p i) = ln_yg (nI t) (K p) K V r q (q - p) (if q = p then 0 else ln_fv (nI t) V p q) := by
  intro l
  induction l with
  | zero =>
    intro i h1 h2
    have : i = q := by omega
    subst this
    rw [Nat.zero_add]
  | succ l ih =>
    intro i h1 h2
    rw [show l + 1 + r = l + r + 1 by omega]
    show (if K i = K p then ln_yg (nI t) (K p) K V (l + r) (i + 1) (i - p + 1) (ln_ys (nI t) (i - p) (if i = p then 0 else ln_fv (nI t) V p i) (V i)) else _) = _
    rw [if_pos (hk i h1 (by omega)), ln_ys_fv ht h h1 (by omega) (fun j a b => hk j a (by omega))]
    have := ih (i + 1) (by omega) (by omega)
    rw [if_neg (show ¬ i + 1 = p by omega), show i + 1 - p = i - p + 1 by omega] at this
    exact this
theorem ln_cut {n : Nat} {K V : Nat → Int32} (h : ln_Gd (some (n, K, V))) (k : Int) : ∀ m, m ≤ n → ∃ p, p ≤ m ∧ (∀ i, i < p → (K i).toInt < k) ∧ (∀ i, p ≤ i → i < m → k ≤ (K i).toInt) := by
  intro m
  induction m with
  | zero => intro _; exact ⟨0, Nat.le_refl _, fun i hi => absurd hi (by omega), fun i _ hi => absurd hi (by omega)⟩
  | succ m ih =>
    intro hm
    obtain ⟨p, h1, h2, h3⟩ := ih (by omega)
    by_cases c : (K m).toInt < k
    · refine ⟨m + 1, Nat.le_refl _, fun i hi => ?_, fun i a b => absurd a (by omega)⟩
      have := (ln_mono h (i := i) (m - i) (by omega)).1
      rw [show i + (m - i) = m by omega] at this
      omega
    · refine ⟨p, by omega, h2, fun i a b => ?_⟩
      by_cases e : i = m
      · subst e; omega
      · exact h3 i a (by omega)
theorem ln_fk_run {K : Nat → Int32} {p q : Nat} (hp : p = 0 ∨ ¬ K p = K (p - 1)) (hk : ∀ j, p ≤ j → j < q → K j = K p) : ∀ t, p + t < q → ln_fk K (p + t) = p := by
  intro t
  induction t with
  | zero =>
    intro _
    show ln_fk K p = p
    match p, hp with
    | 0, _ => rfl
    | p + 1, hp =>
      show (if K (p + 1) = K p then ln_fk K p else p + 1) = p + 1
      rw [if_neg]
      rcases hp with hp | hp
      · omega
      · exact hp
  | succ t ih =>
    intro ht
    show (if K (p + t + 1) = K (p + t) then ln_fk K (p + t) else p + t + 1) = p
    rw [if_pos ((hk (p + t + 1) (by omega) ht).trans (hk (p + t) (by omega) (by omega)).symm), ih (by omega)]
theorem ln_g6_run {how : Int32} {n p q : Nat} {K V : Nat → Int32} (hq : q ≤ n) (hp : p = 0 ∨ ¬ K p = K (p - 1)) (hk : ∀ j, p ≤ j → j < q → K j = K p) (he : q = n ∨ ¬ K q = K p) :
    ∀ l i, p ≤ i → i + l + 1 = q → ln_sq (ln_g6 how n K V) (l + 1) i = [(K p, ln_fv how V p q)] := by
  intro l
  induction l with
  | zero =>
    intro i h1 h2
    show ln_g6 how n K V i ++ [] = _
    rw [List.append_nil]
    unfold ln_g6
    have f := ln_fk_run hp hk (i - p) (by omega)
    rw [show p + (i - p) = i by omega] at f
    have e1 : K i = K p := hk i h1 (by omega)
    have e2 : i + 1 = q := by omega
    rw [if_pos, f, e1, e2]
    rw [e2, e1]
    exact he
  | succ l ih =>
    intro i h1 h2
    show ln_g6 how n K V i ++ ln_sq (ln_g6 how n K V) (l + 1) (i + 1) = _
    rw [ih (i + 1) (by omega) (by omega)]
    unfold ln_g6
    rw [if_neg]
    · rfl
    · rintro (z | z)
      · omega
      · exact z ((hk (i + 1) (by omega) (by omega)).trans (hk i h1 (by omega)).symm)
theorem ln_fold {t n : Nat} {K V : Nat → Int32} (ht : t ≤ 3) (h : ln_Gd (some (n, K, V))) :
    ∀ r k p : Nat, k + r = 16 → p ≤ n → (∀ i, i < p → (K i).toInt < (k : Int)) → (∀ i, p ≤ i → i < n → (k : Int) ≤ (K i).toInt) → ln_sq (ln_g6 (nI t) n K V) (n - p) p = ln_sq (ln_gY (nI t) n K V) r k := by
  intro r
  induction r with
  | zero =>
    intro k p hk hp h1 h2
    have : p = n := by
      by_cases c : p < n
      · have a := h2 p (Nat.le_refl _) c
        have b := (h.1 p c).2
        omega
      · omega
    rw [this, Nat.sub_self]
    rfl
  | succ r ih =>
    intro k p hk hp h1 h2
    obtain ⟨q, g0, g1, g2⟩ := ln_cut h ((k + 1 : Nat) : Int) n (Nat.le_refl _)
    have hpq : p ≤ q := by
      by_cases c : q < p
      · have a := h1 q c
        have b := g2 q (Nat.le_refl _) (by omega)
        omega
      · omega
    have kk : ∀ j, p ≤ j → j < q → K j = nI k := by
      intro j a b
      have a1 := h2 j a (by omega)
      have b1 := g1 j b
      apply Int32.toInt_inj.mp
      rw [nI_toInt (by omega)]
      omega
    have k1 : ∀ j, j < p → ¬ K j = nI k := by
      intro j a z
      have a1 := h1 j a
      rw [z, nI_toInt (by omega)] at a1
      omega
    have k2 : ∀ j, q ≤ j → j < n → ¬ K j = nI k := by
      intro j a b z
      have a1 := g2 j a b
      rw [z, nI_toInt (by omega)] at a1
      omega
    have ih' := ih (k + 1) q (by omega) g0 g1 g2
    show _ = ln_gY (nI t) n K V k ++ ln_sq (ln_gY (nI t) n K V) r (k + 1)
    rw [← ih', show n - p = (q - p) + (n - q) by omega, ln_sq_spl, show p + (q - p) = q by omega]
    refine congrArg (· ++ ln_sq (ln_g6 (nI t) n K V) (n - q) q) ?_
    by_cases c : p = q
    · have y : ln_yg (nI t) (nI k) K V n 0 0 0 = (0, 0) := by
        have := ln_yg_skip (how := nI t) (k := nI k) (K := K) (V := V) (r := 0) (m := 0) (c := 0) n 0 (fun j a b => by
          by_cases z : j < p
          · exact k1 j z
          · exact k2 j (by omega) (by omega))
        exact this
      unfold ln_gY
      rw [y, c, Nat.sub_self]
      rfl
    · have ep : K p = nI k := kk p (Nat.le_refl _) (by omega)
      have kp : ∀ j, p ≤ j → j < q → K j = K p := fun j a b => (kk j a b).trans ep.symm
      have y : ln_yg (nI t) (nI k) K V n 0 0 0 = (q - p, ln_fv (nI t) V p q) := by
        have s1 := ln_yg_skip (how := nI t) (k := nI k) (K := K) (V := V) (r := (q - p) + (n - q)) (m := 0) (c := 0) p 0 (fun j a b => k1 j (by omega))
        have s2 := ln_yg_run (r := n - q) ht h g0 kp (q - p) p (Nat.le_refl _) (by omega)
        have s3 := ln_yg_skip (how := nI t) (k := nI k) (K := K) (V := V) (r := 0) (m := ln_fv (nI t) V p q) (c := q - p) (n - q) q (fun j a b => k2 j a (by omega))
        rw [if_pos rfl, Nat.sub_self, if_neg (show ¬ q = p by omega), ep] at s2
        rw [show p + ((q - p) + (n - q)) = n by omega, Nat.zero_add] at s1
        rw [s1, s2]
        exact s3
      unfold ln_gY
      rw [y, if_neg (show ¬ q - p = 0 by omega)]
      have hp0 : p = 0 ∨ ¬ K p = K (p - 1) := by
        by_cases z : p = 0
        · exact Or.inl z
        · refine Or.inr fun w => k1 (p - 1) (by omega) ?_
          rw [← w, ep]
      have he : q = n ∨ ¬ K q = K p := by
        by_cases z : q = n
        · exact Or.inl z
        · refine Or.inr fun w => k2 q (Nat.le_refl _) (by omega) ?_
          rw [w, ep]
      have := ln_g6_run (how := nI t) (V := V) g0 hp0 kp he (q - p - 1) p (Nat.le_refl _) (by omega)
      rw [show q - p - 1 + 1 = q - p by omega, ep] at this
      exact this
theorem ln_foldY {t n : Nat} {K V : Nat → Int32} (ht : t ≤ 3) (h : ln_Gd (some (n, K, V))) : ln_sq (ln_g6 (nI t) n K V) n 0 = ln_sq (ln_gY (nI t) n K V) 16 0 :=
  ln_fold ht h 16 0 0 rfl (Nat.zero_le _) (fun i hi => absurd hi (by omega)) (fun i _ hi => (h.1 i hi).1)
