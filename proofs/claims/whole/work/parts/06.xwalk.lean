theorem lx_first {x : Nat} {post : Int32 → Prop} (P : post (nI (48 * x))) : wpX_firstPlace post (nI x) := by
  unfold wpX_firstPlace
  rw [ln_fp]
  exact P
section
variable {T : Nat → ln_D} {s x n : Nat} {D : ln_D} {K V kk vv sz bg hk hv : Nat → Int32} {h : Int32}
theorem lx_end {post : Int32 → Prop} (hs : s < 16) (H : ln_Tb T s D kk vv sz bg) (hx : x < s) (hT : T x = some (n, K, V)) (P : post (nI (48 * x + n))) :
    wpX_endPlace post (h, nI s, hk, hv, kk, vv, sz, bg) (nI x) := by
  obtain ⟨z1, z2, z3⟩ := ln_sz H hx hT
  unfold wpX_endPlace
  dsimp only
  rw [nI_clamp (n := x) (by omega), ln_fp, z3, nI_add]
  exact ⟨vp_in_nI (by omega) (by omega), P⟩
variable {post : SX → Prop}
theorem lx_addScaled {a b : Int32} (hs : s < 16) (H : ln_Tb T s D kk vv sz bg) (hx : x < s) (hT : T x = some (n, K, V))
    (P : ∀ kk' vv' sz' bg', ln_Tb T s (ln_fo D (ln_sq (ln_g1 a b K V) n 0)) kk' vv' sz' bg' → post (h, nI s, hk, hv, kk', vv', sz', bg')) :
    wpX_addScaled post (h, nI s, hk, hv, kk, vv, sz, bg) (nI x) a b := by
  have hn := (ln_sz H hx hT).2.1
  unfold wpX_addScaled
  dsimp only
  refine lx_first (lx_end hs H hx hT ⟨n + 1, ?_⟩)
  refine ln_walk (fun f i kk vv sz bg => wX_addScaled_17 post a b (nI (48 * x + n)) f (nI (48 * x + i)) h (nI s) hk hv kk vv sz bg) (fun kk vv sz bg => post (h, nI s, hk, hv, kk, vv, sz, bg)) n (ln_g1 a b K V)
    (fun f kk vv sz bg D H q => br_t (nI_le (Nat.le_refl _) (by omega)) q) (fun f i kk vv sz bg D hi H ih => ?_) n 0 D kk vv sz bg (by omega) H P
  obtain ⟨r1, r2, r3⟩ := ln_rd (by omega) H hx hT hi
  exact br_f (nI_ge (by omega) (by omega)) ⟨r3, r3, lx_add hs H r1 (by rw [r2]) fun kk' vv' sz' bg' H' => nm_r (nI_1 _) (ih kk' vv' sz' bg' H')⟩
theorem lx_addRekeyed {a b : Int32} (hs : s < 16) (H : ln_Tb T s D kk vv sz bg) (hx : x < s) (hT : T x = some (n, K, V))
    (P : ∀ kk' vv' sz' bg', ln_Tb T s (ln_fo D (ln_sq (ln_g3 a b K V) n 0)) kk' vv' sz' bg' → post (h, nI s, hk, hv, kk', vv', sz', bg')) :
    wpX_addRekeyed post (h, nI s, hk, hv, kk, vv, sz, bg) (nI x) a b := by
  have hn := (ln_sz H hx hT).2.1
  unfold wpX_addRekeyed
  dsimp only
  refine lx_first (lx_end hs H hx hT ⟨n + 1, ?_⟩)
  refine ln_walk (fun f i kk vv sz bg => wX_addRekeyed_17 post a b (nI (48 * x + n)) f (nI (48 * x + i)) h (nI s) hk hv kk vv sz bg) (fun kk vv sz bg => post (h, nI s, hk, hv, kk, vv, sz, bg)) n (ln_g3 a b K V)
    (fun f kk vv sz bg D H q => br_t (nI_le (Nat.le_refl _) (by omega)) q) (fun f i kk vv sz bg D hi H ih => ?_) n 0 D kk vv sz bg (by omega) H P
  obtain ⟨r1, r2, r3⟩ := ln_rd (by omega) H hx hT hi
  exact br_f (nI_ge (by omega) (by omega)) ⟨r3, r3, lx_add hs H (by rw [r1]) r2 fun kk' vv' sz' bg' H' => nm_r (nI_1 _) (ih kk' vv' sz' bg' H')⟩
theorem lx_addSwapped (hs : s < 16) (H : ln_Tb T s D kk vv sz bg) (hx : x < s) (hT : T x = some (n, K, V))
    (P : ∀ kk' vv' sz' bg', ln_Tb T s (ln_fo D (ln_sq (ln_gb K V) n 0)) kk' vv' sz' bg' → post (h, nI s, hk, hv, kk', vv', sz', bg')) :
    wpX_addSwapped post (h, nI s, hk, hv, kk, vv, sz, bg) (nI x) := by
  have hn := (ln_sz H hx hT).2.1
  unfold wpX_addSwapped
  dsimp only
  refine lx_first (lx_end hs H hx hT ⟨n + 1, ?_⟩)
  refine ln_walk (fun f i kk vv sz bg => wX_addSwapped_14 post (nI (48 * x + n)) f (nI (48 * x + i)) h (nI s) hk hv kk vv sz bg) (fun kk vv sz bg => post (h, nI s, hk, hv, kk, vv, sz, bg)) n (ln_gb K V)
    (fun f kk vv sz bg D H q => br_t (nI_le (Nat.le_refl _) (by omega)) q) (fun f i kk vv sz bg D hi H ih => ?_) n 0 D kk vv sz bg (by omega) H P
  obtain ⟨r1, r2, r3⟩ := ln_rd (by omega) H hx hT hi
  exact br_f (nI_ge (by omega) (by omega)) ⟨r3, r3, lx_add hs H (by rw [r2]) r1 fun kk' vv' sz' bg' H' => nm_r (nI_1 _) (ih kk' vv' sz' bg' H')⟩
theorem lx_addAtLeast {a : Int32} (hs : s < 16) (H : ln_Tb T s D kk vv sz bg) (hx : x < s) (hT : T x = some (n, K, V))
    (P : ∀ kk' vv' sz' bg', ln_Tb T s (ln_fo D (ln_sq (ln_g2 a K V) n 0)) kk' vv' sz' bg' → post (h, nI s, hk, hv, kk', vv', sz', bg')) :
    wpX_addAtLeast post (h, nI s, hk, hv, kk, vv, sz, bg) (nI x) a := by
  have hn := (ln_sz H hx hT).2.1
  unfold wpX_addAtLeast
  dsimp only
  refine lx_first (lx_end hs H hx hT ⟨n + 1, ?_⟩)
  refine ln_walk (fun f i kk vv sz bg => wX_addAtLeast_15 post a (nI (48 * x + n)) f (nI (48 * x + i)) h (nI s) hk hv kk vv sz bg) (fun kk vv sz bg => post (h, nI s, hk, hv, kk, vv, sz, bg)) n (ln_g2 a K V)
    (fun f kk vv sz bg D H q => br_t (nI_le (Nat.le_refl _) (by omega)) q) (fun f i kk vv sz bg D hi H ih => ?_) n 0 D kk vv sz bg (by omega) H P
  obtain ⟨r1, r2, r3⟩ := ln_rd (by omega) H hx hT hi
  refine br_f (nI_ge (by omega) (by omega)) ⟨r3, ?_⟩
  rw [r2]
  unfold ln_g2 at ih
  refine br_c (fun c => nm_r (nI_1 _) (ih _ _ _ _ ?_)) fun c => ⟨r3, r3, lx_add hs H r1 rfl fun kk' vv' sz' bg' H' => nm_r (nI_1 _) (ih kk' vv' sz' bg' ?_)⟩
  · rw [if_pos c]
    exact H
  · rw [if_neg c]
    exact H'
theorem lx_addRepeated {t : Nat} (ht : t < 2 ^ 31) (hs : s < 16) (H : ln_Tb T s D kk vv sz bg) (hx : x < s) (hT : T x = some (n, K, V))
    (P : ∀ kk' vv' sz' bg', ln_Tb T s (ln_fo D (ln_sq (ln_g4 t K V) n 0)) kk' vv' sz' bg' → post (h, nI s, hk, hv, kk', vv', sz', bg')) :
    wpX_addRepeated post (h, nI s, hk, hv, kk, vv, sz, bg) (nI x) (nI t) := by
  have hn := (ln_sz H hx hT).2.1
  unfold wpX_addRepeated
  dsimp only
  refine lx_first (lx_end hs H hx hT ⟨n + 1, ?_⟩)
  refine ln_walk (fun f i kk vv sz bg => wX_addRepeated_15 post (nI t) (nI (48 * x + n)) f (nI (48 * x + i)) h (nI s) hk hv kk vv sz bg) (fun kk vv sz bg => post (h, nI s, hk, hv, kk, vv, sz, bg)) n (ln_g4 t K V)
    (fun f kk vv sz bg D H q => br_t (nI_le (Nat.le_refl _) (by omega)) q) (fun f i kk vv sz bg D hi H ih => ?_) n 0 D kk vv sz bg (by omega) H P
  refine br_f (nI_ge (by omega) (by omega)) ⟨t + 1, ?_⟩
  refine ln_walk (fun g j kk vv sz bg => wX_addRepeated_25 post (wX_addRepeated_15 post (nI t) (nI (48 * x + n)) f) (nI t) (nI (48 * x + n)) (nI (48 * x + i)) g (nI j) h (nI s) hk hv kk vv sz bg)
    (fun kk vv sz bg => wX_addRepeated_15 post (nI t) (nI (48 * x + n)) f (nI (48 * x + (i + 1))) h (nI s) hk hv kk vv sz bg) t (fun _ => [(K i, V i)])
    (fun g kk vv sz bg D H q => br_t (nI_le (Nat.le_refl _) ht) (nm_r (nI_1 _) q)) (fun g j kk vv sz bg D hj H ih2 => ?_) t 0 D kk vv sz bg (by omega) H ih
  obtain ⟨r1, r2, r3⟩ := ln_rd (by omega) H hx hT hi
  exact br_f (nI_ge (by omega) (by omega)) ⟨r3, r3, lx_add hs H r1 r2 fun kk' vv' sz' bg' H' => nm_r (nI_1 _) (ih2 kk' vv' sz' bg' H')⟩
theorem lx_addJoined {y m : Nat} {K' V' : Nat → Int32} (hs : s < 16) (H : ln_Tb T s D kk vv sz bg) (hx : x < s) (hT : T x = some (n, K, V)) (hy : y < s) (hU : T y = some (m, K', V'))
    (P : ∀ kk' vv' sz' bg', ln_Tb T s (ln_fo D (ln_sq (ln_g7 m K' V' K V) n 0)) kk' vv' sz' bg' → post (h, nI s, hk, hv, kk', vv', sz', bg')) :
    wpX_addJoined post (h, nI s, hk, hv, kk, vv, sz, bg) (nI x) (nI y) := by
  have hn := (ln_sz H hx hT).2.1
  have hm := (ln_sz H hy hU).2.1
  unfold wpX_addJoined
  dsimp only
  refine lx_first (lx_end hs H hx hT (lx_first (lx_end hs H hy hU ⟨n + 1, ?_⟩)))
  refine ln_walk (fun f i kk vv sz bg => wX_addJoined_28 post (nI (48 * x + n)) (nI (48 * y)) (nI (48 * y + m)) f (nI (48 * x + i)) h (nI s) hk hv kk vv sz bg) (fun kk vv sz bg => post (h, nI s, hk, hv, kk, vv, sz, bg)) n (ln_g7 m K' V' K V)
    (fun f kk vv sz bg D H q => br_t (nI_le (Nat.le_refl _) (by omega)) q) (fun f i kk vv sz bg D hi H ih => ?_) n 0 D kk vv sz bg (by omega) H P
  refine br_f (nI_ge (by omega) (by omega)) ⟨m + 1, ?_⟩
  refine ln_walk (fun g j kk vv sz bg => wX_addJoined_39 post (wX_addJoined_28 post (nI (48 * x + n)) (nI (48 * y)) (nI (48 * y + m)) f) (nI (48 * x + n)) (nI (48 * y)) (nI (48 * y + m)) (nI (48 * x + i)) g (nI (48 * y + j)) h (nI s) hk hv kk vv sz bg)
    (fun kk vv sz bg => wX_addJoined_28 post (nI (48 * x + n)) (nI (48 * y)) (nI (48 * y + m)) f (nI (48 * x + (i + 1))) h (nI s) hk hv kk vv sz bg) m (fun j => if K i = K' j then [(K i, V i + V' j)] else [])
    (fun g kk vv sz bg D H q => br_t (nI_le (Nat.le_refl _) (by omega)) (nm_r (nI_1 _) q)) (fun g j kk vv sz bg D hj H ih2 => ?_) m 0 D kk vv sz bg (by omega) H ih
  obtain ⟨r1, r2, r3⟩ := ln_rd (by omega) H hx hT hi
  obtain ⟨q1, q2, q3⟩ := ln_rd (by omega) H hy hU hj
  refine br_f (nI_ge (by omega) (by omega)) ⟨r3, q3, ?_⟩
  rw [r1, r2, q1, q2]
  refine br_c (fun c => ⟨r3, r3, q3, lx_add hs H rfl rfl fun kk' vv' sz' bg' H' => nm_r (nI_1 _) (ih2 kk' vv' sz' bg' ?_)⟩) fun c => nm_r (nI_1 _) (ih2 _ _ _ _ ?_)
  · rw [if_pos c]
    exact H'
  · rw [if_neg c]
    exact H
theorem lx_addDistinct (hs : s < 16) (H : ln_Tb T s D kk vv sz bg) (hx : x < s) (hT : T x = some (n, K, V))
    (P : ∀ kk' vv' sz' bg', ln_Tb T s (ln_fo D (ln_sq (ln_g8 K V) n 0)) kk' vv' sz' bg' → post (h, nI s, hk, hv, kk', vv', sz', bg')) :
    wpX_addDistinct post (h, nI s, hk, hv, kk, vv, sz, bg) (nI x) := by
  have hn := (ln_sz H hx hT).2.1
  unfold wpX_addDistinct
  dsimp only
  refine lx_first (lx_end hs H hx hT ⟨n + 1, ?_⟩)
  refine ln_walk (fun f i kk vv sz bg => wX_addDistinct_14 post (nI (48 * x)) (nI (48 * x + n)) f (nI (48 * x + i)) h (nI s) hk hv kk vv sz bg) (fun kk vv sz bg => post (h, nI s, hk, hv, kk, vv, sz, bg)) n (ln_g8 K V)
    (fun f kk vv sz bg D H q => br_t (nI_le (Nat.le_refl _) (by omega)) q) (fun f i kk vv sz bg D hi H ih => ?_) n 0 D kk vv sz bg (by omega) H P
  obtain ⟨r1, r2, r3⟩ := ln_rd (by omega) H hx hT hi
  have A : (i = 0 ∨ ¬ K i = K (i - 1) ∨ ¬ V i = V (i - 1)) → wX_addDistinct_64 post (wX_addDistinct_14 post (nI (48 * x)) (nI (48 * x + n)) f) (nI (48 * x)) (nI (48 * x + n)) (nI (48 * x + i)) h (nI s) hk hv kk vv sz bg := by
    intro c
    unfold ln_g8 at ih
    rw [if_pos c] at ih
    exact ⟨r3, r3, lx_add hs H r1 r2 fun kk' vv' sz' bg' H' => nm_r (nI_1 _) (ih kk' vv' sz' bg' H')⟩
  have B : ¬ (i = 0 ∨ ¬ K i = K (i - 1) ∨ ¬ V i = V (i - 1)) → wX_addDistinct_14 post (nI (48 * x)) (nI (48 * x + n)) f (nI (48 * x + (i + 1))) h (nI s) hk hv kk vv sz bg := by
    intro c
    unfold ln_g8 at ih
    rw [if_neg c] at ih
    exact ih _ _ _ _ H
  refine br_f (nI_ge (by omega) (by omega)) ?_
  match i, hi, r1, r2, r3, A, B with
  | 0, hi, r1, r2, r3, A, B => exact br_t rfl (A (Or.inl rfl))
  | i + 1, hi, r1, r2, r3, A, B =>
    obtain ⟨q1, q2, q3⟩ := ln_rd (by omega) H hx hT (show i < n by omega)
    have e1 : nI (48 * x + (i + 1)) - 1 = nI (48 * x + i) := nI_pred (48 * x + i)
    have ne : ¬ nI (48 * x + (i + 1)) = nI (48 * x) := fun z => absurd ((nI_eq (by omega) (by omega)).mp z) (by omega)
    refine br_f ne ?_
    rw [e1, r1, r2, q1, q2]
    refine ⟨r3, q3, br_c (fun c => ⟨r3, q3, br_c (fun c2 => nm_r (nI_1 _) (B ?_)) fun c2 => A (Or.inr (Or.inr c2))⟩) fun c => A (Or.inr (Or.inl c))⟩
    rintro (z | z | z)
    · omega
    · exact z c
    · exact z c2
end
