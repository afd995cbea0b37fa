section
variable {T : Nat → ln_D} {d x n : Nat} {D : ln_D} {K V kk vv sz bg hk hv ki px pa pb gn gk gv : Nat → Int32} {hh nn : Int32}
theorem ly_ez (hs : d ≤ 16) (H : ln_Tb T d D kk vv sz bg) (hx : x < d) (hT : T x = some (n, K, V)) : 48 * nI x + sz (nI x).toNatClampNeg = nI (48 * x + n) := by
  rw [nI_clamp (by omega), (ln_sz H hx hT).2.2, ln_fq, nI_add]
theorem ly_ex (hs : d ≤ 16) (H : ln_Tb T d D kk vv sz bg) (hx : x < d) (hT : T x = some (n, K, V)) : 48 * nI x + sz (nI x).toNatClampNeg ≤ nI (48 * x + n) := by
  have := (ln_sz H hx hT).2.1
  rw [ly_ez hs H hx hT]
  exact nI_le (Nat.le_refl _) (by omega)
theorem ly_eg {i : Nat} (hs : d ≤ 16) (H : ln_Tb T d D kk vv sz bg) (hx : x < d) (hT : T x = some (n, K, V)) (hi : i < n) : ¬ 48 * nI x + sz (nI x).toNatClampNeg ≤ nI (48 * x + i) := by
  have := (ln_sz H hx hT).2.1
  rw [ly_ez hs H hx hT]
  exact nI_ge (by omega) (by omega)
theorem ly_isFirst {post : Int32 → Prop} {i : Nat} (hs : d < 16) (H : ln_Tb T d D kk vv sz bg) (hx : x < d) (hT : T x = some (n, K, V)) (hi : i < n)
    (P1 : (i = 0 ∨ ¬ K i = K (i - 1) ∨ ¬ V i = V (i - 1)) → post 1) (P0 : ¬ (i = 0 ∨ ¬ K i = K (i - 1) ∨ ¬ V i = V (i - 1)) → post 0) :
    wpY_isFirst post (hh, nn, hk, hv, ki, px, pa, pb, gn, gk, gv, sz, bg, kk, vv) (nI (48 * x + i)) := by
  have hn := (ln_sz H hx hT).2.1
  have e : nI (48 * x + i) - nI (48 * x + i) / 48 * 48 = nI i := by
    have := pk_rem (a := 48 * x + i) (d := 48) (by omega) (by omega) (by omega)
    rw [show (48 * x + i) % 48 = i by omega] at this
    exact this
  unfold wpY_isFirst
  dsimp only
  rw [e]
  refine ⟨by decide, ?_⟩
  match i, hi, P1, P0 with
  | 0, hi, P1, P0 => exact br_t rfl (P1 (Or.inl rfl))
  | i + 1, hi, P1, P0 =>
    obtain ⟨r1, r2, r3⟩ := ln_rd (by omega) H hx hT hi
    obtain ⟨q1, q2, q3⟩ := ln_rd (by omega) H hx hT (show i < n by omega)
    have e1 : nI (48 * x + (i + 1)) - 1 = nI (48 * x + i) := nI_pred (48 * x + i)
    rw [e1, r1, r2, q1, q2]
    refine br_f (nI_ne0 (by omega) (by omega)) ⟨q3, r3, br_c (fun c => ⟨q3, r3, br_c (fun c2 => P0 ?_) fun c2 => P1 (Or.inr (Or.inr fun z => c2 z.symm))⟩) fun c => P1 (Or.inr (Or.inl fun z => c z.symm))⟩
    rintro (z | z | z)
    · omega
    · exact z c.symm
    · exact z c2.symm
theorem ly_countKey_l {post : Int32 → Prop} {k : Int32} (hs : d < 16) (H : ln_Tb T d D kk vv sz bg) (hx : x < d) (hT : T x = some (n, K, V)) :
    ∀ l j c, j + l = n → post (nI (c + ln_ct (fun j => decide (K j = k)) l j)) → wY_countKey_8 post (nI x) k hh nn hk hv ki px pa pb gn gk gv sz bg kk vv (l + 1) (nI c) (nI (48 * x + j)) := by
  have xi : vp_in (nI x) 16 := vp_in_nI (by omega) (by omega)
  intro l
  induction l with
  | zero =>
    intro j c hj P
    have : j = n := by omega
    subst this
    exact ⟨xi, br_t (ly_ex (by omega) H hx hT) P⟩
  | succ l ih =>
    intro j c hj P
    obtain ⟨r1, r2, r3⟩ := ln_rd (by omega) H hx hT (show j < n by omega)
    have u : ln_ct (fun j => decide (K j = k)) (l + 1) j = (if decide (K j = k) = true then 1 else 0) + ln_ct (fun j => decide (K j = k)) l (j + 1) := rfl
    rw [u] at P
    refine ⟨xi, br_f (ly_eg (by omega) H hx hT (by omega)) ⟨r3, ?_⟩⟩
    rw [r1]
    refine br_c (fun e => nm_r (nI_1 c) (nm_r (nI_1 _) (ih (j + 1) (c + 1) (by omega) ?_))) fun e => nm_r (nI_1 _) (ih (j + 1) c (by omega) ?_)
    · rw [if_pos (decide_eq_true e), ← Nat.add_assoc] at P
      exact P
    · rw [if_neg (fun y => e (of_decide_eq_true y)), Nat.zero_add] at P
      exact P
theorem ly_countKey {post : Int32 → Prop} {k : Int32} (hs : d < 16) (H : ln_Tb T d D kk vv sz bg) (hx : x < d) (hT : T x = some (n, K, V)) (P : post (nI (ln_ct (fun j => decide (K j = k)) n 0))) :
    wpY_countKey post (hh, nn, hk, hv, ki, px, pa, pb, gn, gk, gv, sz, bg, kk, vv) (nI x) k := by
  unfold wpY_countKey
  dsimp only
  rw [ln_fq]
  exact nm_e ⟨n + 1, ly_countKey_l hs H hx hT n 0 0 (by omega) (by rw [Nat.zero_add]; exact P)⟩
theorem ly_behind_l {post : Int32 → Prop} {i : Nat} (hs : d < 16) (H : ln_Tb T d D kk vv sz bg) (hx : x < d) (hT : T x = some (n, K, V)) (hi : i < n) :
    ∀ l j c, j + l = n → post (nI (c + ln_ct (fun j => decide (V i < V j ∨ (V j = V i ∧ (K i < K j ∨ (K j = K i ∧ i < j))))) l j)) →
    wY_behind_8 post (nI x) (nI (48 * x + i)) hh nn hk hv ki px pa pb gn gk gv sz bg kk vv (l + 1) (nI c) (nI (48 * x + j)) := by
  have xi : vp_in (nI x) 16 := vp_in_nI (by omega) (by omega)
  have hn := (ln_sz H hx hT).2.1
  intro l
  induction l with
  | zero =>
    intro j c hj P
    have : j = n := by omega
    subst this
    exact ⟨xi, br_t (ly_ex (by omega) H hx hT) P⟩
  | succ l ih =>
    intro j c hj P
    obtain ⟨r1, r2, r3⟩ := ln_rd (by omega) H hx hT (show j < n by omega)
    obtain ⟨q1, q2, q3⟩ := ln_rd (by omega) H hx hT hi
    have A : (V i < V j ∨ (V j = V i ∧ (K i < K j ∨ (K j = K i ∧ i < j)))) → wY_behind_94 post (wY_behind_8 post (nI x) (nI (48 * x + i)) hh nn hk hv ki px pa pb gn gk gv sz bg kk vv (l + 1)) (nI x) (nI (48 * x + i)) (nI c) (nI (48 * x + j)) hh nn hk hv ki px pa pb gn gk gv sz bg kk vv := by
      intro z
      refine br_f (by decide) (nm_r (nI_1 c) (nm_r (nI_1 _) (ih (j + 1) (c + 1) (by omega) ?_)))
      have P2 : post (nI (c + ((if decide (V i < V j ∨ (V j = V i ∧ (K i < K j ∨ (K j = K i ∧ i < j)))) = true then 1 else 0) + ln_ct (fun j => decide (V i < V j ∨ (V j = V i ∧ (K i < K j ∨ (K j = K i ∧ i < j))))) l (j + 1)))) := P
      rw [if_pos (decide_eq_true z), ← Nat.add_assoc] at P2
      exact P2
    have B : ¬ (V i < V j ∨ (V j = V i ∧ (K i < K j ∨ (K j = K i ∧ i < j)))) → wY_behind_98 post (wY_behind_8 post (nI x) (nI (48 * x + i)) hh nn hk hv ki px pa pb gn gk gv sz bg kk vv (l + 1)) (nI x) (nI (48 * x + i)) (nI c) (nI (48 * x + j)) hh nn hk hv ki px pa pb gn gk gv sz bg kk vv := by
      intro z
      refine br_t rfl (nm_r (nI_1 _) (ih (j + 1) c (by omega) ?_))
      have P2 : post (nI (c + ((if decide (V i < V j ∨ (V j = V i ∧ (K i < K j ∨ (K j = K i ∧ i < j)))) = true then 1 else 0) + ln_ct (fun j => decide (V i < V j ∨ (V j = V i ∧ (K i < K j ∨ (K j = K i ∧ i < j))))) l (j + 1)))) := P
      rw [if_neg (fun y => z (of_decide_eq_true y)), Nat.zero_add] at P2
      exact P2
    refine ⟨xi, br_f (ly_eg (by omega) H hx hT (by omega)) ⟨r3, q3, ?_⟩⟩
    rw [r1, r2, q1, q2]
    refine br_c (fun e => A (Or.inl e)) fun e => ⟨r3, q3, br_c (fun e2 => ⟨r3, q3, br_c (fun e3 => A (Or.inr ⟨e2, Or.inl e3⟩)) fun e3 => ⟨r3, q3, br_c (fun e4 => ?_) fun e4 => B ?_⟩⟩) fun e2 => B ?_⟩
    · by_cases g : i < j
      · exact br_f (nI_ge (by omega) (by omega)) (A (Or.inr ⟨e2, Or.inr ⟨e4, g⟩⟩))
      · refine br_t (nI_le (by omega) (by omega)) (B ?_)
        rintro (z | ⟨_, z | ⟨_, z⟩⟩)
        · exact e z
        · exact e3 z
        · exact g z
    · rintro (z | ⟨_, z | ⟨z, _⟩⟩)
      · exact e z
      · exact e3 z
      · exact e4 z
    · rintro (z | ⟨z, _⟩)
      · exact e z
      · exact e2 z
theorem ly_behind {post : Int32 → Prop} {i : Nat} (hs : d < 16) (H : ln_Tb T d D kk vv sz bg) (hx : x < d) (hT : T x = some (n, K, V)) (hG : ln_Gd (T x)) (hi : i < n) (P : post (nI (ln_bh V n i))) :
    wpY_behind post (hh, nn, hk, hv, ki, px, pa, pb, gn, gk, gv, sz, bg, kk, vv) (nI x) (nI (48 * x + i)) := by
  rw [hT] at hG
  unfold wpY_behind
  dsimp only
  rw [ln_fq]
  exact nm_e ⟨n + 1, ly_behind_l hs H hx hT hi n 0 0 (by omega) (by rw [Nat.zero_add, ln_bhY hG hi]; exact P)⟩
end
section
variable {T : Nat → ln_D} {d x n : Nat} {D : ln_D} {K V kk vv sz bg hk hv ki px pa pb gn gk gv : Nat → Int32} {hh nn : Int32} {post : SY → Prop}
theorem ly_putAll (hs : d < 16) (H : ln_Tb T d D kk vv sz bg) (hx : x < d) (hT : T x = some (n, K, V)) (P : ∀ kk' vv' sz' bg', ln_Tb T d (ln_fo D (ln_sq (ln_g4 1 K V) n 0)) kk' vv' sz' bg' → post (hh, nn, hk, hv, ki, px, pa, pb, gn, gk, gv, sz', bg', kk', vv')) :
    wpY_putAll post (hh, nn, hk, hv, ki, px, pa, pb, gn, gk, gv, sz, bg, kk, vv) (nI d) (nI x) := by
  have xi : vp_in (nI x) 16 := vp_in_nI (by omega) (by omega)
  unfold wpY_putAll
  dsimp only
  rw [ln_fq]
  refine nm_e ⟨n + 1, ?_⟩
  refine ln_walk (fun f i kk vv sz bg => wY_putAll_5 post (nI d) (nI x) f (nI (48 * x + i)) hh nn hk hv ki px pa pb gn gk gv sz bg kk vv) (fun kk vv sz bg => post (hh, nn, hk, hv, ki, px, pa, pb, gn, gk, gv, sz, bg, kk, vv)) n (ln_g4 1 K V)
    (fun f kk vv sz bg D H q => ⟨xi, br_t (ly_ex (by omega) H hx hT) q⟩) (fun f i kk vv sz bg D hi H ih => ?_) n 0 D kk vv sz bg (by omega) H P
  obtain ⟨r1, r2, r3⟩ := ln_rd (by omega) H hx hT hi
  exact ⟨xi, br_f (ly_eg (by omega) H hx hT hi) ⟨r3, r3, ly_put hs H r1 r2 fun kk' vv' sz' bg' H' => nm_r (nI_1 _) (ih kk' vv' sz' bg' H')⟩⟩
theorem ly_match {y m : Nat} {K' V' : Nat → Int32} (hs : d < 16) (H : ln_Tb T d D kk vv sz bg) (hx : x < d) (hT : T x = some (n, K, V)) (hy : y < d) (hU : T y = some (m, K', V')) (P : ∀ kk' vv' sz' bg', ln_Tb T d (ln_fo D (ln_sq (ln_g7 m K' V' K V) n 0)) kk' vv' sz' bg' → post (hh, nn, hk, hv, ki, px, pa, pb, gn, gk, gv, sz', bg', kk', vv')) :
    wpY_match post (hh, nn, hk, hv, ki, px, pa, pb, gn, gk, gv, sz, bg, kk, vv) (nI d) (nI x) (nI y) := by
  have xi : vp_in (nI x) 16 := vp_in_nI (by omega) (by omega)
  have yi : vp_in (nI y) 16 := vp_in_nI (by omega) (by omega)
  unfold wpY_match
  dsimp only
  rw [ln_fq]
  refine nm_e ⟨n + 1, ?_⟩
  refine ln_walk (fun f i kk vv sz bg => wY_match_6 post (nI d) (nI x) (nI y) f (nI (48 * x + i)) hh nn hk hv ki px pa pb gn gk gv sz bg kk vv) (fun kk vv sz bg => post (hh, nn, hk, hv, ki, px, pa, pb, gn, gk, gv, sz, bg, kk, vv)) n (ln_g7 m K' V' K V)
    (fun f kk vv sz bg D H q => ⟨xi, br_t (ly_ex (by omega) H hx hT) q⟩) (fun f i kk vv sz bg D hi H ih => ?_) n 0 D kk vv sz bg (by omega) H P
  refine ⟨xi, br_f (ly_eg (by omega) H hx hT hi) (nm_r (ln_fq y) ⟨m + 1, ?_⟩)⟩
  refine ln_walk (fun g j kk vv sz bg => wY_match_28 post (wY_match_6 post (nI d) (nI x) (nI y) f) (nI d) (nI x) (nI y) (nI (48 * x + i)) g (nI (48 * y + j)) hh nn hk hv ki px pa pb gn gk gv sz bg kk vv)
    (fun kk vv sz bg => wY_match_6 post (nI d) (nI x) (nI y) f (nI (48 * x + (i + 1))) hh nn hk hv ki px pa pb gn gk gv sz bg kk vv) m (fun j => if K i = K' j then [(K i, V i + V' j)] else [])
    (fun g kk vv sz bg D H q => ⟨yi, br_t (ly_ex (by omega) H hy hU) (nm_r (nI_1 _) q)⟩) (fun g j kk vv sz bg D hj H ih2 => ?_) m 0 D kk vv sz bg (by omega) H ih
  obtain ⟨r1, r2, r3⟩ := ln_rd (by omega) H hx hT hi
  obtain ⟨q1, q2, q3⟩ := ln_rd (by omega) H hy hU hj
  refine ⟨yi, br_f (ly_eg (by omega) H hy hU hj) ⟨r3, q3, ?_⟩⟩
  rw [r1, r2, q1, q2]
  refine br_c (fun c => ⟨r3, r3, q3, ly_put hs H rfl rfl fun kk' vv' sz' bg' H' => nm_r (nI_1 _) (ih2 kk' vv' sz' bg' ?_)⟩) fun c => nm_r (nI_1 _) (ih2 _ _ _ _ ?_)
  · rw [if_pos c]
    exact H'
  · rw [if_neg c]
    exact H
theorem ly_latest {a : Int32} (hs : d < 16) (H : ln_Tb T d D kk vv sz bg) (hx : x < d) (hT : T x = some (n, K, V)) (hG : ln_Gd (T x)) (P : ∀ kk' vv' sz' bg', ln_Tb T d (ln_fo D (ln_sq (ln_ga a n K V) n 0)) kk' vv' sz' bg' → post (hh, nn, hk, hv, ki, px, pa, pb, gn, gk, gv, sz', bg', kk', vv')) :
    wpY_latest post (hh, nn, hk, hv, ki, px, pa, pb, gn, gk, gv, sz, bg, kk, vv) (nI d) (nI x) a := by
  have xi : vp_in (nI x) 16 := vp_in_nI (by omega) (by omega)
  unfold wpY_latest
  dsimp only
  rw [ln_fq]
  refine nm_e ⟨n + 1, ?_⟩
  refine ln_walk (fun f i kk vv sz bg => wY_latest_6 post (nI d) (nI x) a f (nI (48 * x + i)) hh nn hk hv ki px pa pb gn gk gv sz bg kk vv) (fun kk vv sz bg => post (hh, nn, hk, hv, ki, px, pa, pb, gn, gk, gv, sz, bg, kk, vv)) n (ln_ga a n K V)
    (fun f kk vv sz bg D H q => ⟨xi, br_t (ly_ex (by omega) H hx hT) q⟩) (fun f i kk vv sz bg D hi H ih => ?_) n 0 D kk vv sz bg (by omega) H P
  obtain ⟨r1, r2, r3⟩ := ln_rd (by omega) H hx hT hi
  unfold ln_ga at ih
  refine ⟨xi, br_f (ly_eg (by omega) H hx hT hi) (ly_behind hs H hx hT hG hi (br_c (fun c => nm_r (nI_1 _) (ih _ _ _ _ ?_)) fun c => ?_))⟩
  · rw [if_pos c]
    exact H
  · rw [if_neg c] at ih
    exact ⟨r3, r3, ly_put hs H r1 r2 fun kk' vv' sz' bg' H' => nm_r (nI_1 _) (ih kk' vv' sz' bg' H')⟩
theorem ly_given {c : Nat} (hs : d < 16) (hc : c ≤ 24) (hg : gn d = nI c) (H : ln_Tb T d D kk vv sz bg) (P : ∀ kk' vv' sz' bg', ln_Tb T d (ln_fo D (ln_sq (fun i => [(gk (24 * d + i), gv (24 * d + i))]) c 0)) kk' vv' sz' bg' → post (hh, nn, hk, hv, ki, px, pa, pb, gn, gk, gv, sz', bg', kk', vv')) :
    wY_workOut_112 post (nI d) (c + 1) (nI (24 * d)) hh nn hk hv ki px pa pb gn gk gv sz bg kk vv := by
  have di : vp_in (nI d) 16 := vp_in_nI (by omega) (by omega)
  have e : 24 * nI d + gn (nI d).toNatClampNeg = nI (24 * d + c) := by
    rw [nI_clamp (by omega), hg, ln_fr, nI_add]
  refine ln_walk (fun f i kk vv sz bg => wY_workOut_112 post (nI d) f (nI (24 * d + i)) hh nn hk hv ki px pa pb gn gk gv sz bg kk vv) (fun kk vv sz bg => post (hh, nn, hk, hv, ki, px, pa, pb, gn, gk, gv, sz, bg, kk, vv)) c (fun i => [(gk (24 * d + i), gv (24 * d + i))])
    (fun f kk vv sz bg D H q => ⟨di, br_t (by rw [e]; exact nI_le (Nat.le_refl _) (by omega)) q⟩) (fun f i kk vv sz bg D hi H ih => ?_) c 0 D kk vv sz bg (by omega) H P
  have r3 : vp_in (nI (24 * d + i)) 384 := vp_in_nI (by omega) (by omega)
  exact ⟨di, br_f (by rw [e]; exact nI_ge (by omega) (by omega)) ⟨r3, r3, ly_put hs H (congrArg gk (nI_clamp (by omega))) (congrArg gv (nI_clamp (by omega))) fun kk' vv' sz' bg' H' => nm_r (nI_1 _) (ih kk' vv' sz' bg' H')⟩⟩
end
