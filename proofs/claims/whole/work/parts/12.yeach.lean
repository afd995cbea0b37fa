section
variable {T : Nat → ln_D} {d x n : Nat} {D : ln_D} {K V kk vv sz bg hk hv ki px pa pb gn gk gv : Nat → Int32} {hh nn : Int32} {post : SY → Prop}
theorem ly_group_22 {J : Int32 → Int32 → Int32 → ln_F → ln_F → ln_F → ln_F → ln_F → ln_F → ln_F → ln_F → ln_F → ln_F → ln_F → ln_F → ln_F → Prop} {how : Int32} {k : Nat} (hs : d < 16) (H : ln_Tb T d D kk vv sz bg) (hx : x < d) (hT : T x = some (n, K, V)) :
    ∀ l i c m, i + l = n → c ≤ i → (∀ kk' vv' sz' bg', ln_Tb T d (ln_fo D (if (ln_yg how (nI k) K V l i c m).1 = 0 then [] else [(nI k, (ln_yg how (nI k) K V l i c m).2)])) kk' vv' sz' bg' → J (nI (k + 1)) hh nn hk hv ki px pa pb gn gk gv sz' bg' kk' vv') →
    wY_group_22 post J (nI d) (nI x) how (nI k) hh nn hk hv ki px pa pb gn gk gv sz bg kk vv (l + 1) (nI c) m (nI (48 * x + i)) := by
  have xi : vp_in (nI x) 16 := vp_in_nI (by omega) (by omega)
  have hn := (ln_sz H hx hT).2.1
  intro l
  induction l with
  | zero =>
    intro i c m hi hc P
    have : i = n := by omega
    subst this
    refine ⟨xi, br_t (ly_ex (by omega) H hx hT) ?_⟩
    have P2 : ∀ kk' vv' sz' bg', ln_Tb T d (ln_fo D (if c = 0 then [] else [(nI k, m)])) kk' vv' sz' bg' → J (nI (k + 1)) hh nn hk hv ki px pa pb gn gk gv sz' bg' kk' vv' := P
    by_cases z : c = 0
    · subst z
      exact br_t (by decide) (nm_r (nI_1 k) (P2 _ _ _ _ H))
    · rw [if_neg z] at P2
      exact br_f (nI_nle (by omega) (by omega)) (ly_put hs H rfl rfl fun kk' vv' sz' bg' H' => nm_r (nI_1 k) (P2 kk' vv' sz' bg' H'))
  | succ l ih =>
    intro i c m hi hc P
    obtain ⟨r1, r2, r3⟩ := ln_rd (by omega) H hx hT (show i < n by omega)
    have u : ln_yg how (nI k) K V (l + 1) i c m = if K i = nI k then ln_yg how (nI k) K V l (i + 1) (c + 1) (ln_ys how c m (V i)) else ln_yg how (nI k) K V l (i + 1) c m := rfl
    rw [u] at P
    refine ⟨xi, br_f (ly_eg (by omega) H hx hT (by omega)) ⟨r3, ?_⟩⟩
    rw [r1, r2]
    refine br_c (fun e => ⟨r3, nm_e ?_⟩) fun e => nm_r (nI_1 _) (ih (i + 1) c m (by omega) (by omega) ?_)
    · rw [if_pos e] at P
      have A : ∀ m', ln_ys how c m (V i) = m' → wY_group_22 post J (nI d) (nI x) how (nI k) hh nn hk hv ki px pa pb gn gk gv sz bg kk vv (l + 1) (nI (c + 1)) m' (nI (48 * x + (i + 1))) := by
        intro m' em
        rw [em] at P
        exact ih (i + 1) (c + 1) m' (by omega) (by omega) P
      unfold ln_ys at A
      have B : ¬ how = 0 → ¬ how = 3 → ¬ c = 0 → ¬ (how = 1 ∧ V i < m) → wY_group_101 post J (wY_group_22 post J (nI d) (nI x) how (nI k) hh nn hk hv ki px pa pb gn gk gv sz bg kk vv (l + 1)) (nI d) (nI x) how (nI k) (nI c) m (nI (48 * x + i)) (V i) hh nn hk hv ki px pa pb gn gk gv sz bg kk vv := by
        intro b1 b2 b3 b4
        rw [if_neg b1, if_neg b2] at A
        refine br_c (fun c1 => br_c (fun c2 => nm_r (nI_1 c) (nm_r (nI_1 _) (A m (if_neg ?_)))) fun c2 => nm_r (nI_1 c) (nm_r (nI_1 _) (A (V i) (if_pos (Or.inr (Or.inr ⟨c1, Int32.not_le.mp c2⟩)))))) fun c1 => nm_r (nI_1 c) (nm_r (nI_1 _) (A m (if_neg ?_)))
        · rintro (z | z | ⟨_, z⟩)
          · exact b3 z
          · exact b4 z
          · exact (Int32.not_lt.mpr c2) z
        · rintro (z | z | ⟨z, _⟩)
          · exact b3 z
          · exact b4 z
          · exact c1 z
      refine br_c (fun c1 => nm_e (nm_r (nI_1 c) (nm_r (nI_1 _) (A _ (if_pos c1))))) fun c1 => br_c (fun c2 => nm_e (nm_r (nI_1 c) (nm_r (nI_1 _) (A _ ?_)))) fun c2 => ?_
      · rw [if_neg c1, if_pos c2]
      · by_cases z : c = 0
        · refine br_t (by rw [z]; rfl) (nm_r (nI_1 c) (nm_r (nI_1 _) (A _ ?_)))
          rw [if_neg c1, if_neg c2, if_pos (Or.inl z)]
        · refine br_f (nI_ne0 (by omega) (by omega)) (br_c (fun c3 => br_c (fun c4 => nm_r (nI_1 c) (nm_r (nI_1 _) (A _ ?_))) fun c4 => B c1 c2 z fun y => c4 y.2) fun c3 => B c1 c2 z fun y => c3 y.1)
          rw [if_neg c1, if_neg c2, if_pos (Or.inr (Or.inl ⟨c3, c4⟩))]
    · rw [if_neg e] at P
      exact P
theorem ly_group {t : Nat} (ht : t ≤ 3) (hs : d < 16) (H : ln_Tb T d D kk vv sz bg) (hx : x < d) (hT : T x = some (n, K, V)) (hG : ln_Gd (T x)) (P : ∀ kk' vv' sz' bg', ln_Tb T d (ln_fo D (ln_sq (ln_g6 (nI t) n K V) n 0)) kk' vv' sz' bg' → post (hh, nn, hk, hv, ki, px, pa, pb, gn, gk, gv, sz', bg', kk', vv')) :
    wpY_group post (hh, nn, hk, hv, ki, px, pa, pb, gn, gk, gv, sz, bg, kk, vv) (nI d) (nI x) (nI t) := by
  rw [hT] at hG
  rw [ln_foldY ht hG] at P
  refine ⟨16 + 1, ?_⟩
  refine ln_walk (fun f i kk vv sz bg => wY_group_3 post (nI d) (nI x) (nI t) f (nI i) hh nn hk hv ki px pa pb gn gk gv sz bg kk vv) (fun kk vv sz bg => post (hh, nn, hk, hv, ki, px, pa, pb, gn, gk, gv, sz, bg, kk, vv)) 16 (ln_gY (nI t) n K V)
    (fun f kk vv sz bg D H q => br_t (by decide) q) (fun f i kk vv sz bg D hi H ih => ?_) 16 0 D kk vv sz bg (by omega) H P
  exact br_f (nI_ge (b := 16) (by omega) (by decide)) (nm_r (ln_fq x) ⟨n + 1, ly_group_22 hs H hx hT n 0 0 0 (by omega) (Nat.le_refl _) ih⟩)
variable {i : Nat} {a b : Int32}
theorem ly_e1 (hs : d < 16) (H : ln_Tb T d D kk vv sz bg) (hx : x < d) (hT : T x = some (n, K, V)) (hi : i < n) (P : ∀ kk' vv' sz' bg', ln_Tb T d (ln_fo D (ln_g1 a b K V i)) kk' vv' sz' bg' → post (hh, nn, hk, hv, ki, px, pa, pb, gn, gk, gv, sz', bg', kk', vv')) :
    wpY_each post (hh, nn, hk, hv, ki, px, pa, pb, gn, gk, gv, sz, bg, kk, vv) (nI d) 1 (nI (48 * x + i)) a b := by
  obtain ⟨r1, r2, r3⟩ := ln_rd (by omega) H hx hT hi
  exact ⟨r3, nm_r r1 ⟨r3, nm_r r2 (br_t rfl (ly_put hs H rfl rfl fun kk' vv' sz' bg' H' => br_f (by decide) (br_f (by decide) (br_f (by decide) (br_f (by decide) (br_f (by decide) (br_f (by decide) (P kk' vv' sz' bg' H'))))))))⟩⟩
theorem ly_e2 (hs : d < 16) (H : ln_Tb T d D kk vv sz bg) (hx : x < d) (hT : T x = some (n, K, V)) (hi : i < n) (P : ∀ kk' vv' sz' bg', ln_Tb T d (ln_fo D (ln_g2 a K V i)) kk' vv' sz' bg' → post (hh, nn, hk, hv, ki, px, pa, pb, gn, gk, gv, sz', bg', kk', vv')) :
    wpY_each post (hh, nn, hk, hv, ki, px, pa, pb, gn, gk, gv, sz, bg, kk, vv) (nI d) 2 (nI (48 * x + i)) a b := by
  obtain ⟨r1, r2, r3⟩ := ln_rd (by omega) H hx hT hi
  unfold ln_g2 at P
  refine ⟨r3, nm_r r1 ⟨r3, nm_r r2 (br_f (by decide) (br_t rfl (br_c (fun c => ?_) fun c => ?_)))⟩⟩
  · rw [if_pos c] at P
    exact br_f (by decide) (br_f (by decide) (br_f (by decide) (br_f (by decide) (br_f (by decide) (P _ _ _ _ H)))))
  · rw [if_neg c] at P
    exact ly_put hs H rfl rfl fun kk' vv' sz' bg' H' => br_f (by decide) (br_f (by decide) (br_f (by decide) (br_f (by decide) (br_f (by decide) (P kk' vv' sz' bg' H')))))
theorem ly_e3 (hs : d < 16) (H : ln_Tb T d D kk vv sz bg) (hx : x < d) (hT : T x = some (n, K, V)) (hi : i < n) (P : ∀ kk' vv' sz' bg', ln_Tb T d (ln_fo D (ln_g3 a b K V i)) kk' vv' sz' bg' → post (hh, nn, hk, hv, ki, px, pa, pb, gn, gk, gv, sz', bg', kk', vv')) :
    wpY_each post (hh, nn, hk, hv, ki, px, pa, pb, gn, gk, gv, sz, bg, kk, vv) (nI d) 3 (nI (48 * x + i)) a b := by
  obtain ⟨r1, r2, r3⟩ := ln_rd (by omega) H hx hT hi
  exact ⟨r3, nm_r r1 ⟨r3, nm_r r2 (br_f (by decide) (br_f (by decide) (br_t rfl (ly_put hs H rfl rfl fun kk' vv' sz' bg' H' => br_f (by decide) (br_f (by decide) (br_f (by decide) (br_f (by decide) (P kk' vv' sz' bg' H'))))))))⟩⟩
theorem ly_e4 {t : Nat} (ht : t ≤ 3) (hs : d < 16) (H : ln_Tb T d D kk vv sz bg) (hx : x < d) (hT : T x = some (n, K, V)) (hi : i < n) (P : ∀ kk' vv' sz' bg', ln_Tb T d (ln_fo D (ln_g4 t K V i)) kk' vv' sz' bg' → post (hh, nn, hk, hv, ki, px, pa, pb, gn, gk, gv, sz', bg', kk', vv')) :
    wpY_each post (hh, nn, hk, hv, ki, px, pa, pb, gn, gk, gv, sz, bg, kk, vv) (nI d) 4 (nI (48 * x + i)) (nI t) b := by
  obtain ⟨r1, r2, r3⟩ := ln_rd (by omega) H hx hT hi
  refine ⟨r3, nm_r r1 ⟨r3, nm_r r2 (br_f (by decide) (br_f (by decide) (br_f (by decide) (br_t rfl ⟨t + 1, ?_⟩))))⟩⟩
  refine ln_walk (fun f j kk vv sz bg => wY_each_88 post (nI d) 4 (nI (48 * x + i)) (nI t) (K i) (V i) f (nI j) hh nn hk hv ki px pa pb gn gk gv sz bg kk vv) (fun kk vv sz bg => post (hh, nn, hk, hv, ki, px, pa, pb, gn, gk, gv, sz, bg, kk, vv)) t (fun _ => [(K i, V i)])
    (fun f kk vv sz bg D H q => br_t (nI_le (Nat.le_refl _) (by omega)) (br_f (by decide) (br_f (by decide) (br_f (by decide) q)))) (fun f j kk vv sz bg D hj H ih => ?_) t 0 D kk vv sz bg (by omega) H P
  exact br_f (nI_ge (by omega) (by omega)) (ly_put hs H rfl rfl fun kk' vv' sz' bg' H' => nm_r (nI_1 _) (ih kk' vv' sz' bg' H'))
theorem ly_e8 (hs : d < 16) (H : ln_Tb T d D kk vv sz bg) (hx : x < d) (hT : T x = some (n, K, V)) (hi : i < n) (P : ∀ kk' vv' sz' bg', ln_Tb T d (ln_fo D (ln_g8 K V i)) kk' vv' sz' bg' → post (hh, nn, hk, hv, ki, px, pa, pb, gn, gk, gv, sz', bg', kk', vv')) :
    wpY_each post (hh, nn, hk, hv, ki, px, pa, pb, gn, gk, gv, sz, bg, kk, vv) (nI d) 8 (nI (48 * x + i)) a b := by
  obtain ⟨r1, r2, r3⟩ := ln_rd (by omega) H hx hT hi
  unfold ln_g8 at P
  refine ⟨r3, nm_r r1 ⟨r3, nm_r r2 (br_f (by decide) (br_f (by decide) (br_f (by decide) (br_f (by decide) (br_t rfl (ly_isFirst hs H hx hT hi (fun c => ?_) fun c => ?_))))))⟩⟩
  · rw [if_pos c] at P
    exact br_f (by decide) (ly_put hs H rfl rfl fun kk' vv' sz' bg' H' => br_f (by decide) (br_f (by decide) (P kk' vv' sz' bg' H')))
  · rw [if_neg c] at P
    exact br_t rfl (br_f (by decide) (br_f (by decide) (P _ _ _ _ H)))
theorem ly_e9 {y m : Nat} {K' V' : Nat → Int32} (hs : d < 16) (H : ln_Tb T d D kk vv sz bg) (hx : x < d) (hT : T x = some (n, K, V)) (hy : y < d) (hU : T y = some (m, K', V')) (hi : i < n) (P : ∀ kk' vv' sz' bg', ln_Tb T d (ln_fo D (ln_g9 m K' K V i)) kk' vv' sz' bg' → post (hh, nn, hk, hv, ki, px, pa, pb, gn, gk, gv, sz', bg', kk', vv')) :
    wpY_each post (hh, nn, hk, hv, ki, px, pa, pb, gn, gk, gv, sz, bg, kk, vv) (nI d) 9 (nI (48 * x + i)) (nI y) b := by
  obtain ⟨r1, r2, r3⟩ := ln_rd (by omega) H hx hT hi
  have hm := (ln_sz H hy hU).2.1
  have hc := ln_ct_le (fun j => decide (K' j = K i)) m 0
  unfold ln_g9 at P
  refine ⟨r3, nm_r r1 ⟨r3, nm_r r2 (br_f (by decide) (br_f (by decide) (br_f (by decide) (br_f (by decide) (br_f (by decide) (br_t rfl (ly_countKey hs H hy hU ?_)))))))⟩⟩
  by_cases c : ln_ct (fun j => decide (K' j = K i)) m 0 = 0
  · rw [if_pos c] at P
    rw [c]
    exact br_t rfl (ly_put hs H rfl rfl fun kk' vv' sz' bg' H' => br_f (by decide) (P kk' vv' sz' bg' H'))
  · rw [if_neg c] at P
    exact br_f (nI_ne0 (by omega) (by omega)) (br_f (by decide) (P _ _ _ _ H))
theorem ly_e11 (hs : d < 16) (H : ln_Tb T d D kk vv sz bg) (hx : x < d) (hT : T x = some (n, K, V)) (hi : i < n) (P : ∀ kk' vv' sz' bg', ln_Tb T d (ln_fo D (ln_gb K V i)) kk' vv' sz' bg' → post (hh, nn, hk, hv, ki, px, pa, pb, gn, gk, gv, sz', bg', kk', vv')) :
    wpY_each post (hh, nn, hk, hv, ki, px, pa, pb, gn, gk, gv, sz, bg, kk, vv) (nI d) 11 (nI (48 * x + i)) a b := by
  obtain ⟨r1, r2, r3⟩ := ln_rd (by omega) H hx hT hi
  exact ⟨r3, nm_r r1 ⟨r3, nm_r r2 (br_f (by decide) (br_f (by decide) (br_f (by decide) (br_f (by decide) (br_f (by decide) (br_f (by decide) (br_t rfl (ly_put hs H rfl rfl P))))))))⟩⟩
theorem ly_234 {o : Int32} {g : Nat → ln_L} (hs : d < 16) (H : ln_Tb T d D kk vv sz bg) (hx : x < d) (hT : T x = some (n, K, V))
    (E : ∀ (i : Nat) (kk vv sz bg : Nat → Int32) (D : ln_D) (post : SY → Prop), i < n → ln_Tb T d D kk vv sz bg → (∀ kk' vv' sz' bg', ln_Tb T d (ln_fo D (g i)) kk' vv' sz' bg' → post (hh, nn, hk, hv, ki, px, pa, pb, gn, gk, gv, sz', bg', kk', vv')) → wpY_each post (hh, nn, hk, hv, ki, px, pa, pb, gn, gk, gv, sz, bg, kk, vv) (nI d) o (nI (48 * x + i)) a (pb d))
    (P : ∀ kk' vv' sz' bg', ln_Tb T d (ln_fo D (ln_sq g n 0)) kk' vv' sz' bg' → post (hh, nn, hk, hv, ki, px, pa, pb, gn, gk, gv, sz', bg', kk', vv')) :
    wY_workOut_234 post (nI d) o (nI x) a (n + 1) (nI (48 * x)) hh nn hk hv ki px pa pb gn gk gv sz bg kk vv := by
  have xi : vp_in (nI x) 16 := vp_in_nI (by omega) (by omega)
  have di : vp_in (nI d) 16 := vp_in_nI (by omega) (by omega)
  refine ln_walk (fun f i kk vv sz bg => wY_workOut_234 post (nI d) o (nI x) a f (nI (48 * x + i)) hh nn hk hv ki px pa pb gn gk gv sz bg kk vv) (fun kk vv sz bg => post (hh, nn, hk, hv, ki, px, pa, pb, gn, gk, gv, sz, bg, kk, vv)) n g
    (fun f kk vv sz bg D H q => ⟨xi, br_t (ly_ex (by omega) H hx hT) q⟩) (fun f i kk vv sz bg D hi H ih => ?_) n 0 D kk vv sz bg (by omega) H P
  refine ⟨xi, br_f (ly_eg (by omega) H hx hT hi) ⟨di, ?_⟩⟩
  rw [nI_clamp (n := d) (by omega)]
  exact E i kk vv sz bg D _ hi H fun kk' vv' sz' bg' H' => nm_r (nI_1 _) (ih kk' vv' sz' bg' H')
end
