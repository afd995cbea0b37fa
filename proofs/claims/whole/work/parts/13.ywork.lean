section
variable {T : Nat → ln_D} {d y n : Nat} {K V kk vv sz bg hk hv ki px pa pb gn gk gv : Nat → Int32} {hh nn a : Int32} {post : SY → Prop} {gl : ln_L}
theorem ly_v1 (hs : d < 16) (H : ∀ e, e < d → ln_Ho e (T e) kk vv sz bg) (hy : y < d) (hT : T y = some (n, K, V)) (P : ∀ kk' vv' sz' bg', ln_Tb T d (ln_rs T 1 (nI y) a (pb d) gl) kk' vv' sz' bg' → post (hh, nn, hk, hv, ki, px, pa, pb, gn, gk, gv, sz', bg', kk', vv')) :
    wY_workOut_91 post (nI d) 1 (nI y) a 0 (nI d) hh nn hk hv ki px pa pb gn gk gv (upd sz d 0) bg kk vv := by
  rw [ln_rs_1 (by omega) hT] at P
  have H0 := ln_start H
  have di : vp_in (nI d) 16 := vp_in_nI (by omega) (by omega)
  unfold wY_workOut_91
  rw [nI_clamp (n := d) (by omega), lx_nar0]
  refine ⟨di, nm_e ⟨di, br_t pk_us ?_⟩⟩
  exact br_f (by decide) (br_f (by decide) (br_f (by decide) (br_f (by decide) (br_f (by decide) (nm_r (ln_fq y) ⟨n + 1, ly_234 hs H0 hy hT (fun i kk vv sz bg D post hi H P => ly_e1 hs H hy hT hi P) P⟩)))))
theorem ly_v2 (hs : d < 16) (H : ∀ e, e < d → ln_Ho e (T e) kk vv sz bg) (hy : y < d) (hT : T y = some (n, K, V)) (P : ∀ kk' vv' sz' bg', ln_Tb T d (ln_rs T 2 (nI y) a (pb d) gl) kk' vv' sz' bg' → post (hh, nn, hk, hv, ki, px, pa, pb, gn, gk, gv, sz', bg', kk', vv')) :
    wY_workOut_91 post (nI d) 2 (nI y) a 0 (nI d) hh nn hk hv ki px pa pb gn gk gv (upd sz d 0) bg kk vv := by
  rw [ln_rs_2 (by omega) hT] at P
  have H0 := ln_start H
  have di : vp_in (nI d) 16 := vp_in_nI (by omega) (by omega)
  unfold wY_workOut_91
  rw [nI_clamp (n := d) (by omega), lx_nar0]
  refine ⟨di, nm_e ⟨di, br_t pk_us ?_⟩⟩
  exact br_f (by decide) (br_f (by decide) (br_f (by decide) (br_f (by decide) (br_f (by decide) (nm_r (ln_fq y) ⟨n + 1, ly_234 hs H0 hy hT (fun i kk vv sz bg D post hi H P => ly_e2 hs H hy hT hi P) P⟩)))))
theorem ly_v3 (hs : d < 16) (H : ∀ e, e < d → ln_Ho e (T e) kk vv sz bg) (hy : y < d) (hT : T y = some (n, K, V)) (P : ∀ kk' vv' sz' bg', ln_Tb T d (ln_rs T 3 (nI y) a (pb d) gl) kk' vv' sz' bg' → post (hh, nn, hk, hv, ki, px, pa, pb, gn, gk, gv, sz', bg', kk', vv')) :
    wY_workOut_91 post (nI d) 3 (nI y) a 0 (nI d) hh nn hk hv ki px pa pb gn gk gv (upd sz d 0) bg kk vv := by
  rw [ln_rs_3 (by omega) hT] at P
  have H0 := ln_start H
  have di : vp_in (nI d) 16 := vp_in_nI (by omega) (by omega)
  unfold wY_workOut_91
  rw [nI_clamp (n := d) (by omega), lx_nar0]
  refine ⟨di, nm_e ⟨di, br_t pk_us ?_⟩⟩
  exact br_f (by decide) (br_f (by decide) (br_f (by decide) (br_f (by decide) (br_f (by decide) (nm_r (ln_fq y) ⟨n + 1, ly_234 hs H0 hy hT (fun i kk vv sz bg D post hi H P => ly_e3 hs H hy hT hi P) P⟩)))))
theorem ly_v8 (hs : d < 16) (H : ∀ e, e < d → ln_Ho e (T e) kk vv sz bg) (hy : y < d) (hT : T y = some (n, K, V)) (P : ∀ kk' vv' sz' bg', ln_Tb T d (ln_rs T 8 (nI y) a (pb d) gl) kk' vv' sz' bg' → post (hh, nn, hk, hv, ki, px, pa, pb, gn, gk, gv, sz', bg', kk', vv')) :
    wY_workOut_91 post (nI d) 8 (nI y) a 0 (nI d) hh nn hk hv ki px pa pb gn gk gv (upd sz d 0) bg kk vv := by
  rw [ln_rs_8 (by omega) hT] at P
  have H0 := ln_start H
  have di : vp_in (nI d) 16 := vp_in_nI (by omega) (by omega)
  unfold wY_workOut_91
  rw [nI_clamp (n := d) (by omega), lx_nar0]
  refine ⟨di, nm_e ⟨di, br_t pk_us ?_⟩⟩
  exact br_f (by decide) (br_f (by decide) (br_f (by decide) (br_f (by decide) (br_f (by decide) (nm_r (ln_fq y) ⟨n + 1, ly_234 hs H0 hy hT (fun i kk vv sz bg D post hi H P => ly_e8 hs H hy hT hi P) P⟩)))))
theorem ly_v11 (hs : d < 16) (H : ∀ e, e < d → ln_Ho e (T e) kk vv sz bg) (hy : y < d) (hT : T y = some (n, K, V)) (P : ∀ kk' vv' sz' bg', ln_Tb T d (ln_rs T 11 (nI y) a (pb d) gl) kk' vv' sz' bg' → post (hh, nn, hk, hv, ki, px, pa, pb, gn, gk, gv, sz', bg', kk', vv')) :
    wY_workOut_91 post (nI d) 11 (nI y) a 0 (nI d) hh nn hk hv ki px pa pb gn gk gv (upd sz d 0) bg kk vv := by
  rw [ln_rs_11 (by omega) hT] at P
  have H0 := ln_start H
  have di : vp_in (nI d) 16 := vp_in_nI (by omega) (by omega)
  unfold wY_workOut_91
  rw [nI_clamp (n := d) (by omega), lx_nar0]
  refine ⟨di, nm_e ⟨di, br_t pk_us ?_⟩⟩
  exact br_f (by decide) (br_f (by decide) (br_f (by decide) (br_f (by decide) (br_f (by decide) (nm_r (ln_fq y) ⟨n + 1, ly_234 hs H0 hy hT (fun i kk vv sz bg D post hi H P => ly_e11 hs H hy hT hi P) P⟩)))))
theorem ly_v4 {t : Nat} (ht : t ≤ 3) (hs : d < 16) (H : ∀ e, e < d → ln_Ho e (T e) kk vv sz bg) (hy : y < d) (hT : T y = some (n, K, V)) (P : ∀ kk' vv' sz' bg', ln_Tb T d (ln_rs T 4 (nI y) (nI t) (pb d) gl) kk' vv' sz' bg' → post (hh, nn, hk, hv, ki, px, pa, pb, gn, gk, gv, sz', bg', kk', vv')) :
    wY_workOut_91 post (nI d) 4 (nI y) (nI t) 0 (nI d) hh nn hk hv ki px pa pb gn gk gv (upd sz d 0) bg kk vv := by
  rw [ln_rs_4 ht (by omega) hT] at P
  have H0 := ln_start H
  have di : vp_in (nI d) 16 := vp_in_nI (by omega) (by omega)
  unfold wY_workOut_91
  rw [nI_clamp (n := d) (by omega), lx_nar0]
  refine ⟨di, nm_e ⟨di, br_t pk_us ?_⟩⟩
  exact br_f (by decide) (br_f (by decide) (br_f (by decide) (br_f (by decide) (br_f (by decide) (nm_r (ln_fq y) ⟨n + 1, ly_234 hs H0 hy hT (fun i kk vv sz bg D post hi H P => ly_e4 ht hs H hy hT hi P) P⟩)))))
theorem ly_v6 {t : Nat} (ht : t ≤ 3) (hs : d < 16) (H : ∀ e, e < d → ln_Ho e (T e) kk vv sz bg) (hy : y < d) (hT : T y = some (n, K, V)) (hG : ln_Gd (T y)) (P : ∀ kk' vv' sz' bg', ln_Tb T d (ln_rs T 6 (nI y) (nI t) (pb d) gl) kk' vv' sz' bg' → post (hh, nn, hk, hv, ki, px, pa, pb, gn, gk, gv, sz', bg', kk', vv')) :
    wY_workOut_91 post (nI d) 6 (nI y) (nI t) 0 (nI d) hh nn hk hv ki px pa pb gn gk gv (upd sz d 0) bg kk vv := by
  rw [ln_rs_6 (by omega) hT] at P
  have H0 := ln_start H
  have di : vp_in (nI d) 16 := vp_in_nI (by omega) (by omega)
  unfold wY_workOut_91
  rw [nI_clamp (n := d) (by omega), lx_nar0]
  refine ⟨di, nm_e ⟨di, br_t pk_us ?_⟩⟩
  exact br_f (by decide) (br_f (by decide) (br_t rfl (ly_group ht hs H0 hy hT hG P)))
theorem ly_v10 (hs : d < 16) (H : ∀ e, e < d → ln_Ho e (T e) kk vv sz bg) (hy : y < d) (hT : T y = some (n, K, V)) (hG : ln_Gd (T y)) (P : ∀ kk' vv' sz' bg', ln_Tb T d (ln_rs T 10 (nI y) a (pb d) gl) kk' vv' sz' bg' → post (hh, nn, hk, hv, ki, px, pa, pb, gn, gk, gv, sz', bg', kk', vv')) :
    wY_workOut_91 post (nI d) 10 (nI y) a 0 (nI d) hh nn hk hv ki px pa pb gn gk gv (upd sz d 0) bg kk vv := by
  rw [ln_rs_10 (by omega) hT] at P
  have H0 := ln_start H
  have di : vp_in (nI d) 16 := vp_in_nI (by omega) (by omega)
  unfold wY_workOut_91
  rw [nI_clamp (n := d) (by omega), lx_nar0]
  refine ⟨di, nm_e ⟨di, br_t pk_us ?_⟩⟩
  exact br_f (by decide) (br_f (by decide) (br_f (by decide) (br_f (by decide) (br_t rfl (ly_latest hs H0 hy hT hG P)))))
theorem ly_v5 {z m : Nat} {K' V' : Nat → Int32} (hs : d < 16) (H : ∀ e, e < d → ln_Ho e (T e) kk vv sz bg) (hy : y < d) (hT : T y = some (n, K, V)) (hz : z < d) (hU : T z = some (m, K', V')) (P : ∀ kk' vv' sz' bg', ln_Tb T d (ln_rs T 5 (nI y) (nI z) (pb d) gl) kk' vv' sz' bg' → post (hh, nn, hk, hv, ki, px, pa, pb, gn, gk, gv, sz', bg', kk', vv')) :
    wY_workOut_91 post (nI d) 5 (nI y) (nI z) 0 (nI d) hh nn hk hv ki px pa pb gn gk gv (upd sz d 0) bg kk vv := by
  rw [ln_rs_5 (by omega) hT (by omega) hU] at P
  have H0 := ln_start H
  have di : vp_in (nI d) 16 := vp_in_nI (by omega) (by omega)
  unfold wY_workOut_91
  rw [nI_clamp (n := d) (by omega), lx_nar0]
  refine ⟨di, nm_e ⟨di, br_t pk_us ?_⟩⟩
  exact br_f (by decide) (br_t rfl (ly_putAll hs H0 hy hT fun kk' vv' sz' bg' H' => ly_putAll hs H' hz hU P))
theorem ly_v7 {z m : Nat} {K' V' : Nat → Int32} (hs : d < 16) (H : ∀ e, e < d → ln_Ho e (T e) kk vv sz bg) (hy : y < d) (hT : T y = some (n, K, V)) (hz : z < d) (hU : T z = some (m, K', V')) (P : ∀ kk' vv' sz' bg', ln_Tb T d (ln_rs T 7 (nI y) (nI z) (pb d) gl) kk' vv' sz' bg' → post (hh, nn, hk, hv, ki, px, pa, pb, gn, gk, gv, sz', bg', kk', vv')) :
    wY_workOut_91 post (nI d) 7 (nI y) (nI z) 0 (nI d) hh nn hk hv ki px pa pb gn gk gv (upd sz d 0) bg kk vv := by
  rw [ln_rs_7 (by omega) hT (by omega) hU] at P
  have H0 := ln_start H
  have di : vp_in (nI d) 16 := vp_in_nI (by omega) (by omega)
  unfold wY_workOut_91
  rw [nI_clamp (n := d) (by omega), lx_nar0]
  refine ⟨di, nm_e ⟨di, br_t pk_us ?_⟩⟩
  exact br_f (by decide) (br_f (by decide) (br_f (by decide) (br_t rfl (ly_match hs H0 hy hT hz hU P))))
theorem ly_v9 {z m : Nat} {K' V' : Nat → Int32} (hs : d < 16) (H : ∀ e, e < d → ln_Ho e (T e) kk vv sz bg) (hy : y < d) (hT : T y = some (n, K, V)) (hz : z < d) (hU : T z = some (m, K', V')) (P : ∀ kk' vv' sz' bg', ln_Tb T d (ln_rs T 9 (nI y) (nI z) (pb d) gl) kk' vv' sz' bg' → post (hh, nn, hk, hv, ki, px, pa, pb, gn, gk, gv, sz', bg', kk', vv')) :
    wY_workOut_91 post (nI d) 9 (nI y) (nI z) 0 (nI d) hh nn hk hv ki px pa pb gn gk gv (upd sz d 0) bg kk vv := by
  rw [ln_rs_9 (by omega) hT (by omega) hU] at P
  have H0 := ln_start H
  have di : vp_in (nI d) 16 := vp_in_nI (by omega) (by omega)
  unfold wY_workOut_91
  rw [nI_clamp (n := d) (by omega), lx_nar0]
  refine ⟨di, nm_e ⟨di, br_t pk_us ?_⟩⟩
  exact br_f (by decide) (br_f (by decide) (br_f (by decide) (br_f (by decide) (br_f (by decide) (nm_r (ln_fq y) ⟨n + 1, ly_234 hs H0 hy hT (fun i kk vv sz bg D post hi H P => ly_e9 hs H hy hT hz hU hi P) P⟩)))))
theorem ly_v0 {x : Int32} {c : Nat} (hs : d < 16) (H : ∀ e, e < d → ln_Ho e (T e) kk vv sz bg) (hc : c ≤ 24) (hg : gn d = nI c) (P : ∀ kk' vv' sz' bg', ln_Tb T d (ln_rs T 0 x a (pb d) (ln_sq (fun i => [(gk (24 * d + i), gv (24 * d + i))]) c 0)) kk' vv' sz' bg' → post (hh, nn, hk, hv, ki, px, pa, pb, gn, gk, gv, sz', bg', kk', vv')) :
    wY_workOut_91 post (nI d) 0 x a 0 (nI d) hh nn hk hv ki px pa pb gn gk gv (upd sz d 0) bg kk vv := by
  have H0 := ln_start H
  have di : vp_in (nI d) 16 := vp_in_nI (by omega) (by omega)
  unfold wY_workOut_91
  rw [nI_clamp (n := d) (by omega), lx_nar0]
  refine ⟨di, nm_e ⟨di, br_t pk_us ?_⟩⟩
  exact br_t rfl (nm_r (ln_fr d) ⟨c + 1, ly_given hs hc hg H0 P⟩)
theorem ly_86 {o x : Int32} (hs : d < 16) (P : post (hh, nn, hk, hv, ki, px, pa, pb, gn, gk, gv, upd sz d 0, upd bg d 1, kk, vv)) :
    wY_workOut_86 post (nI d) o x a (nI d) hh nn hk hv ki px pa pb gn gk gv (upd sz d 0) bg kk vv := by
  have di : vp_in (nI d) 16 := vp_in_nI (by omega) (by omega)
  unfold wY_workOut_86 wY_workOut_91
  rw [nI_clamp (n := d) (by omega), lx_nar1]
  exact ⟨di, nm_e ⟨di, br_f (by rw [pk_us]; decide) P⟩⟩
/-- one set: it is big, or it is worked out -/
theorem ly_one {o : Int32} (ho : ¬ o ≤ 0) (hs : d < 16) (H : ∀ e, e < d → ln_Ho e (T e) kk vv sz bg) (hy : y < d)
    (Pn : T y = none → post (hh, nn, hk, hv, ki, px, pa, pb, gn, gk, gv, upd sz d 0, upd bg d 1, kk, vv))
    (Ps : ∀ n K V, T y = some (n, K, V) → wY_workOut_91 post (nI d) o (nI y) a 0 (nI d) hh nn hk hv ki px pa pb gn gk gv (upd sz d 0) bg kk vv) :
    wY_workOut_44 post (nI d) o (nI y) a 0 hh nn hk hv ki px pa pb gn gk gv sz bg kk vv := by
  have di : vp_in (nI d) 16 := vp_in_nI (by omega) (by omega)
  have yi : vp_in (nI y) 16 := vp_in_nI (by omega) (by omega)
  have h := H y hy
  unfold wY_workOut_44
  rw [nI_clamp (n := d) (by omega), nI_clamp (n := y) (by omega)]
  refine ⟨di, nm_e (br_f ho ⟨yi, ?_⟩)⟩
  match e : T y with
  | none =>
    rw [e] at h
    have h1 : bg y = 1 := h
    exact br_f (by rw [h1]; decide) (ly_86 hs (Pn e))
  | some (n, K, V) =>
    rw [e] at h
    exact br_t h.1 (br_t rfl (Ps n K V e))
/-- two sets -/
theorem ly_two {o : Int32} {z : Nat} (ho : ¬ o ≤ 0) (hs : d < 16) (H : ∀ e, e < d → ln_Ho e (T e) kk vv sz bg) (hy : y < d) (hz : z < d)
    (Pn : T y = none → post (hh, nn, hk, hv, ki, px, pa, pb, gn, gk, gv, upd sz d 0, upd bg d 1, kk, vv))
    (Pm : ∀ n K V, T y = some (n, K, V) → T z = none → post (hh, nn, hk, hv, ki, px, pa, pb, gn, gk, gv, upd sz d 0, upd bg d 1, kk, vv))
    (Ps : ∀ n K V m K' V', T y = some (n, K, V) → T z = some (m, K', V') → wY_workOut_91 post (nI d) o (nI y) (nI z) 0 (nI d) hh nn hk hv ki px pa pb gn gk gv (upd sz d 0) bg kk vv) :
    wY_workOut_39 post (nI d) o (nI y) (nI z) hh nn hk hv ki px pa pb gn gk gv sz bg kk vv := by
  have di : vp_in (nI d) 16 := vp_in_nI (by omega) (by omega)
  have yi : vp_in (nI y) 16 := vp_in_nI (by omega) (by omega)
  have zi : vp_in (nI z) 16 := vp_in_nI (by omega) (by omega)
  have h := H y hy
  have h2 := H z hz
  unfold wY_workOut_39 wY_workOut_44
  rw [nI_clamp (n := d) (by omega), nI_clamp (n := y) (by omega)]
  refine ⟨di, nm_e (br_f ho ⟨yi, ?_⟩)⟩
  match e : T y with
  | none =>
    rw [e] at h
    have h1 : bg y = 1 := h
    exact br_f (by rw [h1]; decide) (ly_86 hs (Pn e))
  | some (n, K, V) =>
    rw [e] at h
    refine br_t h.1 (br_f (by decide) ⟨zi, ?_⟩)
    rw [nI_clamp (n := z) (by omega)]
    match e2 : T z with
    | none =>
      rw [e2] at h2
      have h1 : bg z = 1 := h2
      exact br_f (by rw [h1]; decide) (ly_86 hs (Pm n K V e e2))
    | some (m, K', V') =>
      rw [e2] at h2
      exact br_t h2.1 (Ps n K V m K' V' e e2)
end
/-- a recipe that may stand at place s -/
def ln_Ok (s : Nat) (o x a : Int32) : Prop :=
  o = 0 ∨ (∃ y, y < s ∧ x = nI y ∧ ((o = 1 ∨ o = 2 ∨ o = 3 ∨ o = 8 ∨ o = 10 ∨ o = 11) ∨ ((o = 4 ∨ o = 6) ∧ ∃ t, t ≤ 3 ∧ a = nI t) ∨ ((o = 5 ∨ o = 7 ∨ o = 9) ∧ ∃ z, z < s ∧ a = nI z)))
theorem ly_wo {T : Nat → ln_D} {d c : Nat} {kk vv sz bg hk hv ki px pa pb gn gk gv : Nat → Int32} {hh nn : Int32} {post : SY → Prop} (hs : d < 16) (H : ∀ e, e < d → ln_Ho e (T e) kk vv sz bg) (hG : ∀ e, e < d → ln_Gd (T e)) (ok : ln_Ok d (ki d) (px d) (pa d)) (hc : c ≤ 24) (hg : gn d = nI c)
    (P : ∀ kk' vv' sz' bg', (∀ e, e < d → ln_Ho e (T e) kk' vv' sz' bg') → ln_Ho d (ln_rs T (ki d) (px d) (pa d) (pb d) (ln_sq (fun i => [(gk (24 * d + i), gv (24 * d + i))]) c 0)) kk' vv' sz' bg' → post (hh, nn, hk, hv, ki, px, pa, pb, gn, gk, gv, sz', bg', kk', vv')) :
    wpY_workOut post (hh, nn, hk, hv, ki, px, pa, pb, gn, gk, gv, sz, bg, kk, vv) (nI d) := by
  have di : vp_in (nI d) 16 := vp_in_nI (by omega) (by omega)
  unfold wpY_workOut
  dsimp only
  rw [nI_clamp (n := d) (by omega)]
  refine ⟨di, nm_e ⟨di, nm_e ⟨di, nm_e ?_⟩⟩⟩
  generalize ki d = o at *
  generalize px d = x at *
  generalize pa d = a at *
  have P1 : ∀ kk' vv' sz' bg', ln_Tb T d (ln_rs T o x a (pb d) (ln_sq (fun i => [(gk (24 * d + i), gv (24 * d + i))]) c 0)) kk' vv' sz' bg' → post (hh, nn, hk, hv, ki, px, pa, pb, gn, gk, gv, sz', bg', kk', vv') := fun kk' vv' sz' bg' H' => P kk' vv' sz' bg' H'.1 (ln_Bu_Ho H'.2)
  have P2 : ln_rs T o x a (pb d) (ln_sq (fun i => [(gk (24 * d + i), gv (24 * d + i))]) c 0) = none → post (hh, nn, hk, hv, ki, px, pa, pb, gn, gk, gv, upd sz d 0, upd bg d 1, kk, vv) := by
    intro e
    have s := ln_startb (z := 0) H
    exact P _ _ _ _ s.1 (by rw [e]; exact s.2)
  rcases ok with rfl | ⟨y, hy, rfl, ((rfl | rfl | rfl | rfl | rfl | rfl) | ⟨(rfl | rfl), t, ht, rfl⟩ | ⟨(rfl | rfl | rfl), z, hz, rfl⟩)⟩
  · refine br_f (by decide) (br_f (by decide) (br_f (by decide) ⟨di, ?_⟩))
    rw [nI_clamp (n := d) (by omega)]
    exact nm_e (br_t (by decide) (br_t rfl (ly_v0 hs H hc hg P1)))
  · exact br_f (by decide) (br_f (by decide) (br_f (by decide) (ly_one (by decide) hs H hy (fun e => P2 (ln_rs_x (by decide) (by omega) e)) fun n K V e => ly_v1 hs H hy e P1)))
  · exact br_f (by decide) (br_f (by decide) (br_f (by decide) (ly_one (by decide) hs H hy (fun e => P2 (ln_rs_x (by decide) (by omega) e)) fun n K V e => ly_v2 hs H hy e P1)))
  · exact br_f (by decide) (br_f (by decide) (br_f (by decide) (ly_one (by decide) hs H hy (fun e => P2 (ln_rs_x (by decide) (by omega) e)) fun n K V e => ly_v3 hs H hy e P1)))
  · exact br_f (by decide) (br_f (by decide) (br_f (by decide) (ly_one (by decide) hs H hy (fun e => P2 (ln_rs_x (by decide) (by omega) e)) fun n K V e => ly_v8 hs H hy e P1)))
  · exact br_f (by decide) (br_f (by decide) (br_f (by decide) (ly_one (by decide) hs H hy (fun e => P2 (ln_rs_x (by decide) (by omega) e)) fun n K V e => ly_v10 hs H hy e (hG y hy) P1)))
  · exact br_f (by decide) (br_f (by decide) (br_f (by decide) (ly_one (by decide) hs H hy (fun e => P2 (ln_rs_x (by decide) (by omega) e)) fun n K V e => ly_v11 hs H hy e P1)))
  · exact br_f (by decide) (br_f (by decide) (br_f (by decide) (ly_one (by decide) hs H hy (fun e => P2 (ln_rs_x (by decide) (by omega) e)) fun n K V e => ly_v4 ht hs H hy e P1)))
  · exact br_f (by decide) (br_f (by decide) (br_f (by decide) (ly_one (by decide) hs H hy (fun e => P2 (ln_rs_x (by decide) (by omega) e)) fun n K V e => ly_v6 ht hs H hy e (hG y hy) P1)))
  · exact br_t rfl (ly_two (by decide) hs H hy hz (fun e => P2 (ln_rs_x (by decide) (by omega) e)) (fun n K V e e2 => P2 (ln_rs_a (by decide) (by omega) e (by omega) e2)) fun n K V m K' V' e e2 => ly_v5 hs H hy e hz e2 P1)
  · exact br_f (by decide) (br_t rfl (ly_two (by decide) hs H hy hz (fun e => P2 (ln_rs_x (by decide) (by omega) e)) (fun n K V e e2 => P2 (ln_rs_a (by decide) (by omega) e (by omega) e2)) fun n K V m K' V' e e2 => ly_v7 hs H hy e hz e2 P1))
  · exact br_f (by decide) (br_f (by decide) (br_t rfl (ly_two (by decide) hs H hy hz (fun e => P2 (ln_rs_x (by decide) (by omega) e)) (fun n K V e e2 => P2 (ln_rs_a (by decide) (by omega) e (by omega) e2)) fun n K V m K' V' e e2 => ly_v9 hs H hy e hz e2 P1)))
/-- data set e stands in the picture T as its recipe says -/
def ln_Rc (T : Nat → ln_D) (e : Nat) (ki px pa pb gn gk gv : Nat → Int32) : Prop :=
  ln_Ok e (ki e) (px e) (pa e) ∧ ln_Gd (T e) ∧ ∃ c, c ≤ 24 ∧ gn e = nI c ∧ T e = ln_rs T (ki e) (px e) (pa e) (pb e) (ln_sq (fun i => [(gk (24 * e + i), gv (24 * e + i))]) c 0)
theorem ly_ask_l {T : Nat → ln_D} {d s : Nat} {hk hv ki px pa pb gn gk gv : Nat → Int32} {hh nn : Int32} {post : Int32 → SY → Prop} (hs : s ≤ 16) (hd : d < s) (R : ∀ e, e < s → ln_Rc T e ki px pa pb gn gk gv)
    (P : ∀ kk' vv' sz' bg', (∀ e, e < d + 1 → ln_Ho e (T e) kk' vv' sz' bg') → (T d = none → post 0 (hh, nn, hk, hv, ki, px, pa, pb, gn, gk, gv, sz', bg', kk', vv')) ∧ (∀ n K V, T d = some (n, K, V) → post 1 (hh, nn, hk, hv, ki, px, pa, pb, gn, gk, gv, sz', bg', kk', vv'))) :
    ∀ l e kk vv sz bg, e + l = d + 1 → (∀ e', e' < e → ln_Ho e' (T e') kk vv sz bg) → wY_ask_12 post (nI d) (l + 1) (nI e) hh nn hk hv ki px pa pb gn gk gv sz bg kk vv := by
  have di : vp_in (nI d) 16 := vp_in_nI (by omega) (by omega)
  intro l
  induction l with
  | zero =>
    intro e kk vv sz bg he H
    have : e = d + 1 := by omega
    subst this
    refine br_t (nI_lt (by omega) (by omega)) ⟨di, ?_⟩
    rw [nI_clamp (n := d) (by omega)]
    have h := H d (by omega)
    have p := P kk vv sz bg H
    match e : T d with
    | none =>
      rw [e] at h
      have h1 : bg d = 1 := h
      exact br_f (by rw [h1]; decide) (p.1 e)
    | some (n, K, V) =>
      rw [e] at h
      exact br_t h.1 (p.2 n K V e)
  | succ l ih =>
    intro e kk vv sz bg he H
    obtain ⟨ok, _, c, hc, hg, hT⟩ := R e (by omega)
    refine br_f (nI_nlt (by omega) (by omega)) (ly_wo (by omega) H (fun e' he' => (R e' (by omega)).2.1) ok hc hg fun kk' vv' sz' bg' H1 H2 => nm_r (nI_1 e) (ih (e + 1) _ _ _ _ (by omega) fun e' he' => ?_))
    by_cases z : e' = e
    · subst z
      rw [hT]
      exact H2
    · exact H1 e' (by omega)
theorem ly_ask {T : Nat → ln_D} {d s : Nat} {kk vv sz bg hk hv ki px pa pb gn gk gv : Nat → Int32} {hh : Int32} {post : Int32 → SY → Prop} (hs : s ≤ 16) (hd : d < s) (R : ∀ e, e < s → ln_Rc T e ki px pa pb gn gk gv)
    (P : ∀ kk' vv' sz' bg', (∀ e, e < d + 1 → ln_Ho e (T e) kk' vv' sz' bg') → (T d = none → post 0 (hh, nI s, hk, hv, ki, px, pa, pb, gn, gk, gv, sz', bg', kk', vv')) ∧ (∀ n K V, T d = some (n, K, V) → post 1 (hh, nI s, hk, hv, ki, px, pa, pb, gn, gk, gv, sz', bg', kk', vv'))) :
    wpY_ask post (hh, nI s, hk, hv, ki, px, pa, pb, gn, gk, gv, sz, bg, kk, vv) (nI d) := by
  unfold wpY_ask
  dsimp only
  unfold wpY_isSet
  dsimp only
  exact br_f (nI_pos (by omega)) (br_f (nI_ge hd (by omega)) (br_f (by decide) ⟨d + 1 + 1, ly_ask_l hs hd R P (d + 1) 0 kk vv sz bg (by omega) (fun e he => absurd he (by omega))⟩))
theorem ly_ask0 {d s : Int32} {kk vv sz bg hk hv ki px pa pb gn gk gv : Nat → Int32} {hh : Int32} {post : Int32 → SY → Prop} (hd : d < 0 ∨ s ≤ d)
    (P : post 0 (hh, s, hk, hv, ki, px, pa, pb, gn, gk, gv, sz, bg, kk, vv)) : wpY_ask post (hh, s, hk, hv, ki, px, pa, pb, gn, gk, gv, sz, bg, kk, vv) d := by
  unfold wpY_ask
  dsimp only
  unfold wpY_isSet
  dsimp only
  rcases hd with h | h
  · exact br_t h (br_t rfl P)
  · exact br_c (fun _ => br_t rfl P) fun _ => br_t h (br_t rfl P)
