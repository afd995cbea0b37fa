section
variable {T : Nat → ln_D} {s x n : Nat} {D : ln_D} {K V kk vv sz bg hk hv : Nat → Int32} {h : Int32}
theorem lx_hasKey_l {post : Int32 → Prop} {c : Int32} (hs : s < 16) (H : ln_Tb T s D kk vv sz bg) (hx : x < s) (hT : T x = some (n, K, V)) :
    ∀ l j, j + l = n → (ln_ct (fun j => decide (K j = c)) l j = 0 → post 0) → (¬ ln_ct (fun j => decide (K j = c)) l j = 0 → post 1) →
    wX_hasKey_15 post c (nI (48 * x + n)) h (nI s) hk hv kk vv sz bg (l + 1) (nI (48 * x + j)) := by
  have hn := (ln_sz H hx hT).2.1
  intro l
  induction l with
  | zero =>
    intro j hj P0 P1
    exact br_t (nI_le (by omega) (by omega)) (P0 rfl)
  | succ l ih =>
    intro j hj P0 P1
    obtain ⟨r1, r2, r3⟩ := ln_rd (by omega) H hx hT (show j < n by omega)
    have u : ln_ct (fun j => decide (K j = c)) (l + 1) j = (if decide (K j = c) = true then 1 else 0) + ln_ct (fun j => decide (K j = c)) l (j + 1) := rfl
    refine br_f (nI_ge (by omega) (by omega)) ⟨r3, ?_⟩
    rw [r1]
    refine br_c (fun e => P1 ?_) fun e => nm_r (nI_1 _) (ih (j + 1) (by omega) (fun z => P0 ?_) fun z => P1 ?_)
    · rw [u, if_pos (decide_eq_true e)]
      omega
    · rw [u, if_neg (by simpa using e)]
      omega
    · rw [u, if_neg (by simpa using e)]
      omega
theorem lx_hasKey {post : Int32 → Prop} {c key : Int32} (hs : s < 16) (H : ln_Tb T s D kk vv sz bg) (hx : x < s) (hT : T x = some (n, K, V)) (ek : key = c)
    (P0 : ln_ct (fun j => decide (K j = c)) n 0 = 0 → post 0) (P1 : ¬ ln_ct (fun j => decide (K j = c)) n 0 = 0 → post 1) :
    wpX_hasKey post (h, nI s, hk, hv, kk, vv, sz, bg) (nI x) key := by
  subst ek
  unfold wpX_hasKey
  dsimp only
  exact lx_first (lx_end hs H hx hT ⟨n + 1, lx_hasKey_l hs H hx hT n 0 (by omega) P0 P1⟩)
theorem lx_later_l {post : Int32 → Prop} {i : Nat} (hs : s < 16) (H : ln_Tb T s D kk vv sz bg) (hx : x < s) (hT : T x = some (n, K, V)) (hi : i < n) :
    ∀ l j c, j + l = n → post (nI (c + ln_ct (fun j => decide (V i < V j ∨ (V j = V i ∧ i < j))) l j)) →
    wX_laterByValue_6 post (nI (48 * x + i)) (nI (48 * x + n)) h (nI s) hk hv kk vv sz bg (l + 1) (nI c) (nI (48 * x + j)) := by
  have hn := (ln_sz H hx hT).2.1
  intro l
  induction l with
  | zero =>
    intro j c hj P
    exact br_t (nI_le (by omega) (by omega)) P
  | succ l ih =>
    intro j c hj P
    obtain ⟨r1, r2, r3⟩ := ln_rd (by omega) H hx hT (show j < n by omega)
    obtain ⟨q1, q2, q3⟩ := ln_rd (by omega) H hx hT hi
    have u : ln_ct (fun j => decide (V i < V j ∨ (V j = V i ∧ i < j))) (l + 1) j = (if decide (V i < V j ∨ (V j = V i ∧ i < j)) = true then 1 else 0) + ln_ct (fun j => decide (V i < V j ∨ (V j = V i ∧ i < j))) l (j + 1) := rfl
    rw [u] at P
    have A : (V i < V j ∨ (V j = V i ∧ i < j)) → post (nI (c + 1 + ln_ct (fun j => decide (V i < V j ∨ (V j = V i ∧ i < j))) l (j + 1))) := by
      intro z
      rw [if_pos (decide_eq_true z), ← Nat.add_assoc] at P
      exact P
    have B : ¬ (V i < V j ∨ (V j = V i ∧ i < j)) → post (nI (c + ln_ct (fun j => decide (V i < V j ∨ (V j = V i ∧ i < j))) l (j + 1))) := by
      intro z
      rw [if_neg (fun y => z (of_decide_eq_true y)), Nat.zero_add] at P
      exact P
    refine br_f (nI_ge (by omega) (by omega)) ⟨r3, q3, ?_⟩
    rw [r2, q2]
    refine br_c (fun e => nm_r (nI_1 c) (nm_r (nI_1 _) (ih (j + 1) (c + 1) (by omega) (A (Or.inl e))))) fun e => ⟨r3, q3, br_c (fun e2 => ?_) fun e2 => nm_r (nI_1 _) (ih (j + 1) c (by omega) (B ?_))⟩
    · by_cases hh : i < j
      · exact br_f (nI_ge (by omega) (by omega)) (nm_r (nI_1 c) (nm_r (nI_1 _) (ih (j + 1) (c + 1) (by omega) (A (Or.inr ⟨e2, hh⟩)))))
      · refine br_t (nI_le (by omega) (by omega)) (nm_r (nI_1 _) (ih (j + 1) c (by omega) (B ?_)))
        rintro (z | ⟨_, z⟩)
        · exact e z
        · exact hh z
    · rintro (z | ⟨z, _⟩)
      · exact e z
      · exact e2 z
theorem lx_later {post : Int32 → Prop} {i : Nat} (hs : s < 16) (H : ln_Tb T s D kk vv sz bg) (hx : x < s) (hT : T x = some (n, K, V)) (hi : i < n) (P : post (nI (ln_bh V n i))) :
    wpX_laterByValue post (h, nI s, hk, hv, kk, vv, sz, bg) (nI (48 * x + i)) (nI (48 * x)) (nI (48 * x + n)) :=
  ⟨n + 1, lx_later_l hs H hx hT hi n 0 0 (by omega) (by rw [Nat.zero_add]; exact P)⟩
theorem lx_sum_l {post : Int32 → Prop} {e : Nat} (hs : s < 16) (H : ln_Tb T s D kk vv sz bg) (hx : x < s) (hT : T x = some (n, K, V)) (he : e ≤ n) :
    ∀ l j c, j + l = e → post (ln_sm V l j c) → wX_sumOfPlaces_5 post (nI (48 * x + e)) h (nI s) hk hv kk vv sz bg (l + 1) c (nI (48 * x + j)) := by
  have hn := (ln_sz H hx hT).2.1
  intro l
  induction l with
  | zero =>
    intro j c hj P
    exact br_t (nI_le (by omega) (by omega)) P
  | succ l ih =>
    intro j c hj P
    obtain ⟨r1, r2, r3⟩ := ln_rd (by omega) H hx hT (show j < n by omega)
    refine br_f (nI_ge (by omega) (by omega)) ⟨r3, ?_⟩
    rw [r2]
    exact nm_e (nm_r (nI_1 _) (ih (j + 1) _ (by omega) P))
theorem lx_sum {post : Int32 → Prop} {f e : Nat} (hs : s < 16) (H : ln_Tb T s D kk vv sz bg) (hx : x < s) (hT : T x = some (n, K, V)) (hf : f ≤ e) (he : e ≤ n) (P : post (ln_sm V (e - f) f 0)) :
    wpX_sumOfPlaces post (h, nI s, hk, hv, kk, vv, sz, bg) (nI (48 * x + f)) (nI (48 * x + e)) :=
  ⟨e - f + 1, lx_sum_l hs H hx hT he (e - f) f 0 (by omega) P⟩
theorem lx_folded {post : Int32 → Prop} {how : Int32} {f e : Nat} (hs : s < 16) (H : ln_Tb T s D kk vv sz bg) (hx : x < s) (hT : T x = some (n, K, V)) (hf : f ≤ e) (he : e + 1 ≤ n) (P : post (ln_fv how V f (e + 1))) :
    wpX_foldedPlaces post (h, nI s, hk, hv, kk, vv, sz, bg) (nI (48 * x + f)) (nI (48 * x + (e + 1))) how := by
  have hn := (ln_sz H hx hT).2.1
  obtain ⟨r1, r2, r3⟩ := ln_rd (by omega) H hx hT (show f < n by omega)
  obtain ⟨q1, q2, q3⟩ := ln_rd (by omega) H hx hT (show e < n by omega)
  have e1 : nI (48 * x + (e + 1)) - 1 = nI (48 * x + e) := nI_pred (48 * x + e)
  have e2 : nI (48 * x + (e + 1)) - nI (48 * x + f) = nI (e + 1 - f) := by
    rw [pk_sub (by omega)]
    exact congrArg nI (by omega)
  unfold ln_fv at P
  have S : ¬ how = 1 → ¬ how = 2 → ¬ how = 3 → wpX_sumOfPlaces (fun r => post r) (h, nI s, hk, hv, kk, vv, sz, bg) (nI (48 * x + f)) (nI (48 * x + (e + 1))) := by
    intro a1 a2 a3
    rw [if_neg a1, if_neg a2, if_neg a3] at P
    exact lx_sum hs H hx hT (by omega) he P
  unfold wpX_foldedPlaces
  dsimp only
  rw [e1, e2, r2, q2]
  refine br_c (fun c => S ?_ ?_ ?_) fun c => br_c (fun c2 => S ?_ ?_ ?_) fun c2 => br_c (fun c3 => ⟨r3, ?_⟩) fun c3 => br_c (fun c4 => ⟨q3, ?_⟩) fun c4 => br_c (fun c5 => ?_) fun _ => trivial
  · rintro rfl; exact absurd c (by decide)
  · rintro rfl; exact absurd c (by decide)
  · rintro rfl; exact absurd c (by decide)
  · rintro rfl; exact absurd c2 (by decide)
  · rintro rfl; exact absurd c2 (by decide)
  · rintro rfl; exact absurd c2 (by decide)
  · rw [if_pos c3] at P
    exact P
  · rw [if_neg c3, if_pos c4] at P
    exact P
  · rw [if_neg c3, if_neg c4, if_pos c5] at P
    exact P
variable {post : SX → Prop}
theorem lx_addWithout {y m : Nat} {K' V' : Nat → Int32} (hs : s < 16) (H : ln_Tb T s D kk vv sz bg) (hx : x < s) (hT : T x = some (n, K, V)) (hy : y < s) (hU : T y = some (m, K', V'))
    (P : ∀ kk' vv' sz' bg', ln_Tb T s (ln_fo D (ln_sq (ln_g9 m K' K V) n 0)) kk' vv' sz' bg' → post (h, nI s, hk, hv, kk', vv', sz', bg')) :
    wpX_addWithout post (h, nI s, hk, hv, kk, vv, sz, bg) (nI x) (nI y) := by
  have hn := (ln_sz H hx hT).2.1
  unfold wpX_addWithout
  dsimp only
  refine lx_first (lx_end hs H hx hT ⟨n + 1, ?_⟩)
  refine ln_walk (fun f i kk vv sz bg => wX_addWithout_15 post (nI y) (nI (48 * x + n)) f (nI (48 * x + i)) h (nI s) hk hv kk vv sz bg) (fun kk vv sz bg => post (h, nI s, hk, hv, kk, vv, sz, bg)) n (ln_g9 m K' K V)
    (fun f kk vv sz bg D H q => br_t (nI_le (Nat.le_refl _) (by omega)) q) (fun f i kk vv sz bg D hi H ih => ?_) n 0 D kk vv sz bg (by omega) H P
  obtain ⟨r1, r2, r3⟩ := ln_rd (by omega) H hx hT hi
  unfold ln_g9 at ih
  refine br_f (nI_ge (by omega) (by omega)) ⟨r3, lx_hasKey hs H hy hU r1 (fun c => br_t rfl ?_) fun c => br_f (by decide) (nm_r (nI_1 _) (ih _ _ _ _ ?_))⟩
  · rw [if_pos c] at ih
    exact ⟨r3, r3, lx_add hs H r1 r2 fun kk' vv' sz' bg' H' => nm_r (nI_1 _) (ih kk' vv' sz' bg' H')⟩
  · rw [if_neg c]
    exact H
theorem lx_addLast {a : Int32} (hs : s < 16) (H : ln_Tb T s D kk vv sz bg) (hx : x < s) (hT : T x = some (n, K, V))
    (P : ∀ kk' vv' sz' bg', ln_Tb T s (ln_fo D (ln_sq (ln_ga a n K V) n 0)) kk' vv' sz' bg' → post (h, nI s, hk, hv, kk', vv', sz', bg')) :
    wpX_addLast post (h, nI s, hk, hv, kk, vv, sz, bg) (nI x) a := by
  have hn := (ln_sz H hx hT).2.1
  unfold wpX_addLast
  dsimp only
  refine lx_first (lx_end hs H hx hT ⟨n + 1, ?_⟩)
  refine ln_walk (fun f i kk vv sz bg => wX_addLast_15 post a (nI (48 * x)) (nI (48 * x + n)) f (nI (48 * x + i)) h (nI s) hk hv kk vv sz bg) (fun kk vv sz bg => post (h, nI s, hk, hv, kk, vv, sz, bg)) n (ln_ga a n K V)
    (fun f kk vv sz bg D H q => br_t (nI_le (Nat.le_refl _) (by omega)) q) (fun f i kk vv sz bg D hi H ih => ?_) n 0 D kk vv sz bg (by omega) H P
  obtain ⟨r1, r2, r3⟩ := ln_rd (by omega) H hx hT hi
  unfold ln_ga at ih
  refine br_f (nI_ge (by omega) (by omega)) (lx_later hs H hx hT hi (br_c (fun c => nm_r (nI_1 _) (ih _ _ _ _ ?_)) fun c => ?_))
  · rw [if_pos c]
    exact H
  · rw [if_neg c] at ih
    exact ⟨r3, r3, lx_add hs H r1 r2 fun kk' vv' sz' bg' H' => nm_r (nI_1 _) (ih kk' vv' sz' bg' H')⟩
theorem ln_fk_le (K : Nat → Int32) : ∀ i, ln_fk K i ≤ i := by
  intro i
  induction i with
  | zero => exact Nat.le_refl _
  | succ i ih =>
    unfold ln_fk
    split <;> omega
theorem lx_addFolded {how : Int32} (hs : s < 16) (H : ln_Tb T s D kk vv sz bg) (hx : x < s) (hT : T x = some (n, K, V))
    (P : ∀ kk' vv' sz' bg', ln_Tb T s (ln_fo D (ln_sq (ln_g6 how n K V) n 0)) kk' vv' sz' bg' → post (h, nI s, hk, hv, kk', vv', sz', bg')) :
    wpX_addFolded post (h, nI s, hk, hv, kk, vv, sz, bg) (nI x) how := by
  have hn := (ln_sz H hx hT).2.1
  unfold wpX_addFolded
  dsimp only
  refine lx_first (lx_end hs H hx hT ⟨n + 1, ?_⟩)
  refine ln_walk (fun f i kk vv sz bg => ∀ x5, (i < n → x5 = nI (48 * x + ln_fk K i)) → wX_addFolded_18 post how (nI (48 * x + n)) f x5 (nI (48 * x + i)) h (nI s) hk hv kk vv sz bg) (fun kk vv sz bg => post (h, nI s, hk, hv, kk, vv, sz, bg)) n (ln_g6 how n K V)
    (fun f kk vv sz bg D H q x5 _ => br_t (nI_le (Nat.le_refl _) (by omega)) q) (fun f i kk vv sz bg D hi H ih x5 h5 => ?_) n 0 D kk vv sz bg (by omega) H P (nI (48 * x)) (fun _ => rfl)
  obtain ⟨r1, r2, r3⟩ := ln_rd (by omega) H hx hT hi
  have hf := ln_fk_le K i
  have h5' := h5 hi
  subst h5'
  unfold ln_g6 at ih
  have e1 : nI (48 * x + i) + 1 = nI (48 * x + (i + 1)) := nI_1 _
  have A : (i + 1 = n ∨ ¬ K (i + 1) = K i) → wX_addFolded_53 post (wX_addFolded_18 post how (nI (48 * x + n)) f) how (nI (48 * x + n)) (nI (48 * x + ln_fk K i)) (nI (48 * x + i)) h (nI s) hk hv kk vv sz bg := by
    intro c
    rw [if_pos c] at ih
    unfold wX_addFolded_53 wX_addFolded_58
    refine br_f (by decide) ?_
    rw [e1]
    refine lx_folded hs H hx hT hf hi ⟨r3, lx_add hs H r1 rfl fun kk' vv' sz' bg' H' => nm_e (nm_e (ih kk' vv' sz' bg' H' _ fun z => ?_))⟩
    have c' : ¬ K (i + 1) = K i := by
      rcases c with c | c
      · omega
      · exact c
    show nI (48 * x + (i + 1)) = nI (48 * x + if K (i + 1) = K i then ln_fk K i else i + 1)
    rw [if_neg c']
  refine br_f (nI_ge (by omega) (by omega)) ?_
  by_cases c : i + 1 = n
  · refine br_t ?_ (A (Or.inl c))
    rw [e1, c]
  · refine br_f ?_ ?_
    · rw [e1]
      exact fun z => absurd ((nI_eq (by omega) (by omega)).mp z) (by omega)
    · obtain ⟨q1, q2, q3⟩ := ln_rd (by omega) H hx hT (show i + 1 < n by omega)
      rw [e1, r1, q1]
      refine ⟨q3, r3, br_c (fun c2 => ?_) fun c2 => A (Or.inr c2)⟩
      unfold wX_addFolded_58
      refine br_t rfl (nm_r e1 (ih _ _ _ _ ?_ _ fun z => ?_))
      · rw [if_neg]
        · exact H
        · rintro (z | z)
          · exact c z
          · exact z c2
      · show nI (48 * x + ln_fk K i) = nI (48 * x + if K (i + 1) = K i then ln_fk K i else i + 1)
        rw [if_pos c2]
theorem lx_addHand {hn : Nat} (hh : hn ≤ 24) (hs : s < 16) (H : ln_Tb T s D kk vv sz bg)
    (P : ∀ kk' vv' sz' bg', ln_Tb T s (ln_fo D (ln_sq (fun i => [(hk i, hv i)]) hn 0)) kk' vv' sz' bg' → post (0, nI s, hk, hv, kk', vv', sz', bg')) :
    wpX_addHand post (nI hn, nI s, hk, hv, kk, vv, sz, bg) := by
  refine ⟨hn + 1, ?_⟩
  refine ln_walk (fun f i kk vv sz bg => wX_addHand_2 post f (nI i) (nI hn) (nI s) hk hv kk vv sz bg) (fun kk vv sz bg => post (0, nI s, hk, hv, kk, vv, sz, bg)) hn (fun i => [(hk i, hv i)])
    (fun f kk vv sz bg D H q => br_t (nI_le (Nat.le_refl _) (by omega)) q) (fun f i kk vv sz bg D hi H ih => ?_) hn 0 D kk vv sz bg (by omega) H P
  have r3 : vp_in (nI i) 24 := vp_in_nI (by omega) (by omega)
  exact br_f (nI_ge (by omega) (by omega)) ⟨r3, r3, lx_add hs H (congrArg hk (nI_clamp (by omega))) (congrArg hv (nI_clamp (by omega))) fun kk' vv' sz' bg' H' => nm_r (nI_1 _) (ih kk' vv' sz' bg' H')⟩
end
