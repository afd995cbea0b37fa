def i_Rel (_ : Nat) (u : SX) (v : SY) : Prop :=
  ∃ (h s : Nat) (hk hv kk vv sz bg ki px pa pb gn gk gv sz' bg' kk' vv' : Nat → Int32) (T : Nat → ln_D),
    u = (nI h, nI s, hk, hv, kk, vv, sz, bg) ∧ v = (nI h, nI s, hk, hv, ki, px, pa, pb, gn, gk, gv, sz', bg', kk', vv') ∧ h ≤ 24 ∧ s ≤ 16 ∧ (∀ i, i < h → ln_kr (hk i)) ∧
    (∀ e, e < s → ln_Ho e (T e) kk vv sz bg) ∧ (∀ e, e < s → ln_Rc T e ki px pa pb gn gk gv)
theorem ir_mk {k h s : Nat} {hk hv kk vv sz bg ki px pa pb gn gk gv sz' bg' kk' vv' : Nat → Int32} {T : Nat → ln_D} (h1 : h ≤ 24) (h2 : s ≤ 16) (h3 : ∀ i, i < h → ln_kr (hk i))
    (h4 : ∀ e, e < s → ln_Ho e (T e) kk vv sz bg) (h5 : ∀ e, e < s → ln_Rc T e ki px pa pb gn gk gv) :
    i_Rel k (nI h, nI s, hk, hv, kk, vv, sz, bg) (nI h, nI s, hk, hv, ki, px, pa, pb, gn, gk, gv, sz', bg', kk', vv') :=
  ⟨h, s, hk, hv, kk, vv, sz, bg, ki, px, pa, pb, gn, gk, gv, sz', bg', kk', vv', T, rfl, rfl, h1, h2, h3, h4, h5⟩
theorem ln_Ok_x {s : Nat} {o x a : Int32} (ok : ln_Ok s o x a) (h0 : ¬ o = 0) : ∃ y, y < s ∧ x = nI y := by
  rcases ok with z | ⟨y, hy, e, _⟩
  · exact absurd z h0
  · exact ⟨y, hy, e⟩
theorem ln_Ok_a {s : Nat} {o x a : Int32} (ok : ln_Ok s o x a) (h2 : o = 5 ∨ o = 7 ∨ o = 9) : ∃ z, z < s ∧ a = nI z := by
  rcases ok with rfl | ⟨y, hy, e, ((rfl | rfl | rfl | rfl | rfl | rfl) | ⟨(rfl | rfl), _⟩ | ⟨_, z⟩)⟩
  · exact absurd h2 (by decide)
  · exact absurd h2 (by decide)
  · exact absurd h2 (by decide)
  · exact absurd h2 (by decide)
  · exact absurd h2 (by decide)
  · exact absurd h2 (by decide)
  · exact absurd h2 (by decide)
  · exact absurd h2 (by decide)
  · exact absurd h2 (by decide)
  · exact z
theorem ln_rs_cg {T T' : Nat → ln_D} {s : Nat} {o x a b : Int32} {gl : ln_L} (hs : s ≤ 16) (hT : ∀ e, e < s → T' e = T e) (ok : ln_Ok s o x a) : ln_rs T' o x a b gl = ln_rs T o x a b gl := by
  unfold ln_rs
  by_cases h0 : o = 0
  · rw [if_pos h0, if_pos h0]
  · obtain ⟨y, hy, e1⟩ := ln_Ok_x ok h0
    have e1 : T' x.toNatClampNeg = T x.toNatClampNeg := by
      rw [e1, nI_clamp (by omega)]
      exact hT y hy
    rw [if_neg h0, if_neg h0, e1]
    match T x.toNatClampNeg with
    | none => rfl
    | some (n, K, V) =>
      dsimp only
      by_cases h2 : o = 5 ∨ o = 7 ∨ o = 9
      · obtain ⟨z, hz, e2⟩ := ln_Ok_a ok h2
        have e2 : T' a.toNatClampNeg = T a.toNatClampNeg := by
          rw [e2, nI_clamp (by omega)]
          exact hT z hz
        rw [if_pos h2, if_pos h2, e2]
      · rw [if_neg h2, if_neg h2]
/-- a data set more -/
theorem ir_new {k h s c : Nat} {hk hv kk vv sz bg ki px pa pb gn gk gv gn' gk' gv' sz' bg' kk' vv' : Nat → Int32} {T : Nat → ln_D} {o x a b : Int32} (h1 : h ≤ 24) (h2 : s < 16) (h3 : ∀ i, i < h → ln_kr (hk i))
    (h5 : ∀ e, e < s → ln_Rc T e ki px pa pb gn gk gv) (ok : ln_Ok s o x a) (hc : c ≤ 24) (hg : gn' s = nI c) (hgn : ∀ e, e < s → gn' e = gn e) (hgk : ∀ p, p < 24 * s → gk' p = gk p ∧ gv' p = gv p)
    (hkr : ∀ i, i < c → ln_kr (gk' (24 * s + i))) (h4 : ∀ e, e < s → ln_Ho e (T e) kk vv sz bg) (h6 : ln_Ho s (ln_rs T o x a b (ln_sq (fun i => [(gk' (24 * s + i), gv' (24 * s + i))]) c 0)) kk vv sz bg) :
    i_Rel k (nI h, nI (s + 1), hk, hv, kk, vv, sz, bg) (nI h, nI (s + 1), hk, hv, upd ki s o, upd px s x, upd pa s a, upd pb s b, gn', gk', gv', sz', bg', kk', vv') := by
  have hR : ln_Gd (ln_rs T o x a b (ln_sq (fun i => [(gk' (24 * s + i), gv' (24 * s + i))]) c 0)) := by
    refine ln_Gd_rs (fun h0 => ?_) (fun hh => ?_) (fun p hp => ?_)
    · obtain ⟨y, hy, e1⟩ := ln_Ok_x ok h0
      rw [e1, nI_clamp (by omega)]
      exact (h5 y hy).2.1
    · obtain ⟨y, hy, e1⟩ := ln_Ok_a ok hh
      rw [e1, nI_clamp (by omega)]
      exact (h5 y hy).2.1
    · obtain ⟨j, _, j2, j3⟩ := ln_sq_mem _ _ hp
      rw [List.mem_singleton.mp j3]
      exact hkr j (by omega)
  have hT : ∀ e, e < s → (fun e => if e = s then ln_rs T o x a b (ln_sq (fun i => [(gk' (24 * s + i), gv' (24 * s + i))]) c 0) else T e) e = T e := fun e he => if_neg (by omega)
  refine ir_mk (T := fun e => if e = s then ln_rs T o x a b (ln_sq (fun i => [(gk' (24 * s + i), gv' (24 * s + i))]) c 0) else T e) h1 (by omega) h3 (fun e he => ?_) (fun e he => ?_)
  · by_cases z : e = s
    · subst z
      rw [if_pos rfl]
      exact h6
    · rw [if_neg z]
      exact h4 e (by omega)
  · by_cases z : e = s
    · subst z
      refine ⟨?_, ?_, c, hc, hg, ?_⟩
      · rw [pk_us, pk_us, pk_us]
        exact ok
      · dsimp only
        rw [if_pos rfl]
        exact hR
      · rw [pk_us, pk_us, pk_us, pk_us, ln_rs_cg (T := T) (by omega) hT ok]
        exact if_pos rfl
    · have he2 : e < s := by omega
      obtain ⟨oke, gde, ce, hce, hge, hTe⟩ := h5 e he2
      refine ⟨?_, ?_, ce, hce, (hgn e he2).trans hge, ?_⟩
      · rw [pk_un z, pk_un z, pk_un z]
        exact oke
      · rw [hT e he2]
        exact gde
      · have eq : ln_sq (fun i => [(gk' (24 * e + i), gv' (24 * e + i))]) ce 0 = ln_sq (fun i => [(gk (24 * e + i), gv (24 * e + i))]) ce 0 := by
          refine ln_sq_cg _ _ fun j _ hj => ?_
          have q := hgk (24 * e + j) (by omega)
          rw [q.1, q.2]
        rw [pk_un z, pk_un z, pk_un z, pk_un z, eq, ln_rs_cg (T := T) (s := e) (by omega) (fun e' he' => hT e' (by omega)) oke]
        exact (hT e he2).trans hTe
section
variable {h s : Nat} {hk hv ki px pa pb gn gk0 gv0 sz bg kk vv : Nat → Int32} {post : Int32 → SY → Prop}
theorem ly_d82 (hs : s < 16) (hh : h ≤ 24)
    (P : ∀ gk' gv', (∀ j, j < h → gk' (24 * s + j) = hk j ∧ gv' (24 * s + j) = hv j) → (∀ p, p < 24 * s → gk' p = gk0 p ∧ gv' p = gv0 p) → post (nI s) (0, nI (s + 1), hk, hv, ki, px, pa, pb, upd gn s (nI h), gk', gv', sz, bg, kk, vv)) :
    ∀ l i gk gv, i + l = h → (∀ j, j < i → gk (24 * s + j) = hk j ∧ gv (24 * s + j) = hv j) → (∀ p, p < 24 * s → gk p = gk0 p ∧ gv p = gv0 p) → wY_derive_82 post (nI h) (nI s) (l + 1) (nI i) hk hv ki px pa pb gn gk gv sz bg kk vv := by
  have si : vp_in (nI s) 16 := vp_in_nI (by omega) (by omega)
  intro l
  induction l with
  | zero =>
    intro i gk gv hi h1 h2
    have : i = h := by omega
    subst this
    refine br_t (nI_le (Nat.le_refl _) (by omega)) ⟨si, ?_⟩
    rw [nI_clamp (n := s) (by omega)]
    refine nm_e (nm_r (nI_1 s) ?_)
    rw [nI_pred]
    exact P gk gv h1 h2
  | succ l ih =>
    intro i gk gv hi h1 h2
    have i1 : vp_in (nI i) 24 := vp_in_nI (by omega) (by omega)
    have i2 : vp_in (nI (24 * s + i)) 384 := vp_in_nI (by omega) (by omega)
    refine br_f (nI_ge (by omega) (by omega)) ?_
    rw [ln_fr, nI_add, nI_clamp (n := i) (by omega), nI_clamp (n := 24 * s + i) (by omega)]
    refine ⟨i1, i2, nm_e ⟨i1, i2, nm_e (nm_r (nI_1 i) (ih (i + 1) _ _ (by omega) (fun j hj => ?_) fun p hp => ?_))⟩⟩
    · by_cases z : j = i
      · subst z
        rw [pk_us, pk_us]
        exact ⟨rfl, rfl⟩
      · rw [pk_un (by omega), pk_un (by omega)]
        exact h1 j (by omega)
    · rw [pk_un (by omega), pk_un (by omega)]
      exact h2 p hp
theorem ly_derive0 {x a b : Int32} (hs : s < 16) (hh : h ≤ 24)
    (F : ∀ post : Int32 → Prop, post 1 → wpY_fits post (nI h, nI s, hk, hv, ki, px, pa, pb, gn, gk0, gv0, sz, bg, kk, vv) 0 x a)
    (P : ∀ gk' gv', (∀ j, j < h → gk' (24 * s + j) = hk j ∧ gv' (24 * s + j) = hv j) → (∀ p, p < 24 * s → gk' p = gk0 p ∧ gv' p = gv0 p) → post (nI s) (0, nI (s + 1), hk, hv, upd ki s 0, upd px s x, upd pa s a, upd pb s b, upd (upd gn s 0) s (nI h), gk', gv', sz, bg, kk, vv)) :
    wpY_derive post (nI h, nI s, hk, hv, ki, px, pa, pb, gn, gk0, gv0, sz, bg, kk, vv) 0 x a b := by
  have si : vp_in (nI s) 16 := vp_in_nI (by omega) (by omega)
  have ne : ¬ nI s = 16 := fun z => absurd ((nI_eq (b := 16) (by omega) (by decide)).mp z) (by omega)
  unfold wpY_derive
  dsimp only
  rw [nI_clamp (n := s) (by omega)]
  exact br_f ne (F _ (br_f (by decide) ⟨si, nm_e ⟨si, nm_e ⟨si, nm_e ⟨si, nm_e ⟨si, nm_e (br_t rfl ⟨h + 1, ly_d82 hs hh P h 0 gk0 gv0 (by omega) (fun j hj => absurd hj (by omega)) (fun _ _ => ⟨rfl, rfl⟩)⟩)⟩⟩⟩⟩⟩))
theorem ly_derive1 {o x a b : Int32} (h0 : ¬ o = 0) (hs : s < 16)
    (F : ∀ post : Int32 → Prop, post 1 → wpY_fits post (nI h, nI s, hk, hv, ki, px, pa, pb, gn, gk0, gv0, sz, bg, kk, vv) o x a)
    (P : post (nI s) (nI h, nI (s + 1), hk, hv, upd ki s o, upd px s x, upd pa s a, upd pb s b, upd gn s 0, gk0, gv0, sz, bg, kk, vv)) :
    wpY_derive post (nI h, nI s, hk, hv, ki, px, pa, pb, gn, gk0, gv0, sz, bg, kk, vv) o x a b := by
  have si : vp_in (nI s) 16 := vp_in_nI (by omega) (by omega)
  have ne : ¬ nI s = 16 := fun z => absurd ((nI_eq (b := 16) (by omega) (by decide)).mp z) (by omega)
  unfold wpY_derive
  dsimp only
  rw [nI_clamp (n := s) (by omega)]
  refine br_f ne (F _ (br_f (by decide) ⟨si, nm_e ⟨si, nm_e ⟨si, nm_e ⟨si, nm_e ⟨si, nm_e (br_f h0 (nm_r (nI_1 s) ?_))⟩⟩⟩⟩⟩))
  rw [nI_pred]
  exact P
end
theorem i_vc_derive {k : Nat} {u : SX} {v : SY} (I : i_Rel k u v) (hk : k + 5 ≤ 2560) (v1 : Int32) (v2 : Int32) (v3 : Int32) (v4 : Int32) : wpX_derive (fun r u' => wpY_derive (fun r' v' => r' = r ∧ i_Rel (k + 5) u' v') v v1 v2 v3 v4) u v1 v2 v3 v4 := by
  obtain ⟨h, s, hk', hv, kk, vv, sz, bg, ki, px, pa, pb, gn, gk, gv, sz', bg', kk', vv', T, rfl, rfl, h1, h2, h3, h4, h5⟩ := I
  by_cases hs : s < 16
  · obtain ⟨r, hr, FX, FY⟩ := lz_fit (h := nI h) (hh := nI h) (hk := hk') (hv := hv) (kk := kk) (vv := vv) (sz := sz) (bg := bg) (ki := ki) (px := px) (pa := pa) (pb := pb) (gn := gn) (gk := gk) (gv := gv) (sz2 := sz') (bg2 := bg') (kk2 := kk') (vv2 := vv') h2 v1 v2 v3
    have ne : ¬ nI s = 16 := fun z => absurd ((nI_eq (b := 16) (by omega) (by decide)).mp z) (by omega)
    rcases hr with rfl | ⟨rfl, ok⟩
    · unfold wpX_derive wpY_derive
      dsimp only
      exact br_t (nI_lt (b := 16) (by omega) (by decide)) (FX _ (br_t rfl (br_f ne (FY _ (br_t rfl ⟨rfl, ir_mk h1 h2 h3 h4 h5⟩)))))
    · by_cases h0 : v1 = 0
      · subst h0
        refine lx_derive hs h1 h4 ok (fun _ => rfl) FX fun kk2 vv2 sz2 bg2 H1 H2 => ?_
        rw [if_pos rfl]
        refine ly_derive0 hs h1 FY fun gk' gv' G1 G2 => ⟨rfl, ?_⟩
        refine ir_new (h := 0) (c := h) (by omega) hs (fun i hi => absurd hi (by omega)) h5 ok h1 pk_us (fun e he => by rw [pk_un (by omega), pk_un (by omega)]) G2 (fun i hi => by rw [(G1 i hi).1]; exact h3 i hi) H1 ?_
        have eq : ln_sq (fun i => [(gk' (24 * s + i), gv' (24 * s + i))]) h 0 = ln_sq (fun i => [(hk' i, hv i)]) h 0 := by
          refine ln_sq_cg _ _ fun j _ hj => ?_
          have q := G1 j (by omega)
          rw [q.1, q.2]
        rw [eq]
        exact H2
      · refine lx_derive (gl := []) hs h1 h4 ok (fun z => absurd z h0) FX fun kk2 vv2 sz2 bg2 H1 H2 => ?_
        rw [if_neg h0]
        refine ly_derive1 h0 hs FY ⟨rfl, ?_⟩
        exact ir_new (c := 0) h1 hs h3 h5 ok (by omega) pk_us (fun e he => pk_un (by omega)) (fun _ _ => ⟨rfl, rfl⟩) (fun i hi => absurd hi (by omega)) H1 H2
  · have e : s = 16 := by omega
    subst e
    unfold wpX_derive wpY_derive
    dsimp only
    exact br_f (by decide) (br_t rfl ⟨rfl, ir_mk h1 h2 h3 h4 h5⟩)
