theorem ln_rh {x n i : Nat} {K V kk vv sz bg : Nat → Int32} (hx : x < 16) (h : ln_Ho x (some (n, K, V)) kk vv sz bg) (hi : i < n) :
    kk (nI (48 * x + i)).toNatClampNeg = K i ∧ vv (nI (48 * x + i)).toNatClampNeg = V i ∧ vp_in (nI (48 * x + i)) 768 := by
  obtain ⟨h1, h2, h3, h4⟩ := h
  rw [nI_clamp (by omega)]
  exact ⟨(h4 i hi).1, (h4 i hi).2, vp_in_nI (by omega) (by omega)⟩
theorem ln_eh {x n : Nat} {K V kk vv sz bg : Nat → Int32} (hx : x < 16) (h : ln_Ho x (some (n, K, V)) kk vv sz bg) : 48 * nI x + sz (nI x).toNatClampNeg = nI (48 * x + n) := by
  rw [nI_clamp (by omega), h.2.2.1, ln_fq, nI_add]
def ln_lk (K V : Nat → Int32) (k : Int32) : Nat → Nat → Int32 → Int32
  | 0, _, a => a
  | l + 1, i, a => ln_lk K V k l (i + 1) (if K i = k then a + V i else a)
section
variable {x n : Nat} {K V kk vv sz bg hk hv : Nat → Int32} {h f : Int32} {post : Int32 → Prop}
theorem lx_total_l (hx : x < 16) (H : ln_Ho x (some (n, K, V)) kk vv sz bg) :
    ∀ l j c, j + l = n → post (ln_sm V l j c) → wX_sumOfPlaces_5 post (nI (48 * x + n)) h f hk hv kk vv sz bg (l + 1) c (nI (48 * x + j)) := by
  have hn := H.2.1
  intro l
  induction l with
  | zero =>
    intro j c hj P
    exact br_t (nI_le (by omega) (by omega)) P
  | succ l ih =>
    intro j c hj P
    obtain ⟨r1, r2, r3⟩ := ln_rh hx H (show j < n by omega)
    refine br_f (nI_ge (by omega) (by omega)) ⟨r3, ?_⟩
    rw [r2]
    exact nm_e (nm_r (nI_1 _) (ih (j + 1) _ (by omega) P))
theorem lx_lookup_l {k : Int32} (hx : x < 16) (H : ln_Ho x (some (n, K, V)) kk vv sz bg) :
    ∀ l j c, j + l = n → post (ln_lk K V k l j c) → wX_lookup_37 post k (nI (48 * x + n)) h f hk hv kk vv sz bg (l + 1) c (nI (48 * x + j)) := by
  have hn := H.2.1
  intro l
  induction l with
  | zero =>
    intro j c hj P
    exact br_t (nI_le (by omega) (by omega)) P
  | succ l ih =>
    intro j c hj P
    obtain ⟨r1, r2, r3⟩ := ln_rh hx H (show j < n by omega)
    unfold ln_lk at P
    refine br_f (nI_ge (by omega) (by omega)) ⟨r3, ?_⟩
    rw [r1, r2]
    refine br_c (fun e => ?_) fun e => ?_
    · rw [if_pos e] at P
      exact ⟨r3, nm_e (nm_r (nI_1 _) (ih (j + 1) _ (by omega) P))⟩
    · rw [if_neg e] at P
      exact nm_r (nI_1 _) (ih (j + 1) _ (by omega) P)
theorem lx_endh (hx : x < 16) (H : ln_Ho x (some (n, K, V)) kk vv sz bg) (P : post (nI (48 * x + n))) : wpX_endPlace post (h, f, hk, hv, kk, vv, sz, bg) (nI x) := by
  have e := ln_eh hx H
  unfold wpX_endPlace
  dsimp only
  rw [ln_fp, ← ln_fq, e]
  exact ⟨vp_in_nI (by omega) (by omega), P⟩
end
section
variable {x n : Nat} {K V kk vv sz bg hk hv ki px pa pb gn gk gv : Nat → Int32} {hh nn : Int32} {post : Int32 → SY → Prop}
theorem ly_total_l (hx : x < 16) (H : ln_Ho x (some (n, K, V)) kk vv sz bg) :
    ∀ l j c, j + l = n → post (ln_sm V l j c) (hh, nn, hk, hv, ki, px, pa, pb, gn, gk, gv, sz, bg, kk, vv) → wY_total_17 post (nI x) hh nn hk hv ki px pa pb gn gk gv sz bg kk vv (l + 1) c (nI (48 * x + j)) := by
  have hn := H.2.1
  have xi : vp_in (nI x) 16 := vp_in_nI (by omega) (by omega)
  have e := ln_eh hx H
  intro l
  induction l with
  | zero =>
    intro j c hj P
    exact ⟨xi, br_t (by rw [e]; exact nI_le (by omega) (by omega)) P⟩
  | succ l ih =>
    intro j c hj P
    obtain ⟨r1, r2, r3⟩ := ln_rh hx H (show j < n by omega)
    refine ⟨xi, br_f (by rw [e]; exact nI_ge (by omega) (by omega)) ⟨r3, ?_⟩⟩
    rw [r2]
    exact nm_e (nm_r (nI_1 _) (ih (j + 1) _ (by omega) P))
theorem ly_lookup_l {k : Int32} (hx : x < 16) (H : ln_Ho x (some (n, K, V)) kk vv sz bg) :
    ∀ l j c, j + l = n → post (ln_lk K V k l j c) (hh, nn, hk, hv, ki, px, pa, pb, gn, gk, gv, sz, bg, kk, vv) → wY_lookup_18 post (nI x) k hh nn hk hv ki px pa pb gn gk gv sz bg kk vv (l + 1) c (nI (48 * x + j)) := by
  have hn := H.2.1
  have xi : vp_in (nI x) 16 := vp_in_nI (by omega) (by omega)
  have e := ln_eh hx H
  intro l
  induction l with
  | zero =>
    intro j c hj P
    exact ⟨xi, br_t (by rw [e]; exact nI_le (by omega) (by omega)) P⟩
  | succ l ih =>
    intro j c hj P
    obtain ⟨r1, r2, r3⟩ := ln_rh hx H (show j < n by omega)
    unfold ln_lk at P
    refine ⟨xi, br_f (by rw [e]; exact nI_ge (by omega) (by omega)) ⟨r3, ?_⟩⟩
    rw [r1, r2]
    refine br_c (fun e => ?_) fun e => ?_
    · rw [if_pos e] at P
      exact ⟨r3, nm_e (nm_r (nI_1 _) (ih (j + 1) _ (by omega) P))⟩
    · rw [if_neg e] at P
      exact nm_r (nI_1 _) (ih (j + 1) _ (by omega) P)
end
