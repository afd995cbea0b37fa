theorem i_up {k : Nat} {u : SX} {v : SY} (h : i_Rel k u v) : i_Rel (k + 5) u v := h
theorem i_vc0 : wpX_init (fun u => wpY_init (fun v => i_Rel 0 u v)) :=
  ⟨0, 0, _, _, _, _, _, _, _, _, _, _, _, _, _, _, _, _, _, (fun _ => none), rfl, rfl, by omega, by omega, fun i hi => absurd hi (by omega), fun i hi => absurd hi (by omega), fun i hi => absurd hi (by omega)⟩
theorem i_vc_row {k : Nat} {u : SX} {v : SY} (I : i_Rel k u v) (hk : k + 5 ≤ 2560) (v1 : Int32) (v2 : Int32) : wpX_row (fun r u' => wpY_row (fun r' v' => r' = r ∧ i_Rel (k + 5) u' v') v v1 v2) u v1 v2 := by
  obtain ⟨h, s, hk', hv, kk, vv, sz, bg, ki, px, pa, pb, gn, gk, gv, sz', bg', kk', vv', T, rfl, rfl, h1, h2, h3, h4, h5⟩ := I
  unfold wpX_row wpY_row
  dsimp only
  by_cases hf : h < 24
  · have ne : ¬ nI h = 24 := fun z => absurd ((nI_eq (b := 24) (by omega) (by decide)).mp z) (by omega)
    have hi : vp_in (nI h) 24 := vp_in_nI (by omega) (by omega)
    refine br_t (nI_lt (b := 24) (by omega) (by decide)) ?_
    by_cases c1 : v1 < 0
    · exact br_t c1 (br_f ne (br_t c1 (br_t rfl ⟨rfl, ir_mk h1 h2 h3 h4 h5⟩)))
    · obtain ⟨j, hj, rfl⟩ := nI_of c1
      by_cases c2 : j < 16
      · rw [nI_clamp (n := h) (by omega)]
        refine br_f c1 (br_t (nI_lt (b := 16) c2 (by decide)) ⟨hi, nm_e ⟨hi, nm_e (nm_r (nI_1 h) (br_f ne (br_f c1 (br_f (nI_nlt (a := 15) (by omega) (by decide)) (br_f (by decide) ⟨hi, nm_e ⟨hi, nm_e (nm_r (nI_1 h) ⟨rfl, ?_⟩)⟩⟩)))))⟩⟩)
        refine ir_mk (by omega) h2 (fun i hi => ?_) h4 h5
        by_cases z : i = h
        · subst z
          rw [pk_us]
          unfold ln_kr
          rw [nI_toInt hj]
          omega
        · rw [pk_un z]
          exact h3 i (by omega)
      · exact br_f c1 (br_f (nI_nlt (b := 16) (by omega) hj) (br_f ne (br_f c1 (br_t (nI_lt (a := 15) (by omega) hj) (br_t rfl ⟨rfl, ir_mk h1 h2 h3 h4 h5⟩)))))
  · have e : h = 24 := by omega
    subst e
    exact br_f (by decide) (br_t rfl ⟨rfl, ir_mk h1 h2 h3 h4 h5⟩)
theorem i_vc_count {k : Nat} {u : SX} {v : SY} (I : i_Rel k u v) (hk : k + 5 ≤ 2560) (v1 : Int32) : wpX_count (fun r => wpY_count (fun r' v' => r' = r ∧ i_Rel (k + 5) u v') v v1) u v1 := by
  obtain ⟨h, s, hk', hv, kk, vv, sz, bg, ki, px, pa, pb, gn, gk, gv, sz', bg', kk', vv', T, rfl, rfl, h1, h2, h3, h4, h5⟩ := I
  rcases lz_ix v1 (n := s) (by omega) with z | ⟨d, hd, rfl⟩
  · unfold wpX_count wpY_count
    dsimp only
    exact lx_set0 z (br_t rfl (ly_set0 z (br_t rfl ⟨rfl, ir_mk h1 h2 h3 h4 h5⟩)))
  · have di : vp_in (nI d) 16 := vp_in_nI (by omega) (by omega)
    have H := h4 d hd
    unfold wpX_count wpY_count
    dsimp only
    rw [nI_clamp (n := d) (by omega)]
    refine lx_set1 h2 hd (br_f (by decide) ⟨di, ?_⟩)
    match e : T d with
    | none =>
      rw [e] at H
      have hb : bg d = 1 := H
      refine br_f (by rw [hb]; decide) (ly_set1 h2 hd (br_f (by decide) (ly_ask h2 hd h5 fun kk2 vv2 sz2 bg2 H2 => ⟨fun _ => br_t rfl ⟨rfl, ir_mk h1 h2 h3 h4 h5⟩, fun n K V e2 => ?_⟩)))
      rw [e] at e2
      cases e2
    | some (n, K, V) =>
      rw [e] at H
      have hb : bg d = 0 := H.1
      have hn := H.2.1
      have hz : sz d = nI n := H.2.2.1
      refine br_t hb ⟨di, ly_set1 h2 hd (br_f (by decide) (ly_ask h2 hd h5 fun kk2 vv2 sz2 bg2 H2 => ⟨fun e2 => ?_, fun n2 K2 V2 e2 => br_f (by decide) ⟨di, ?_, ir_mk h1 h2 h3 h4 h5⟩⟩))⟩
      · rw [e] at e2
        cases e2
      · have Hd := H2 d (by omega)
        rw [e] at Hd
        show sz2 d = sz d
        rw [Hd.2.2.1, hz]
theorem i_vc_keyOf {k : Nat} {u : SX} {v : SY} (I : i_Rel k u v) (hk : k + 5 ≤ 2560) (v1 : Int32) (v2 : Int32) : wpX_keyOf (fun r => wpY_keyOf (fun r' v' => r' = r ∧ i_Rel (k + 5) u v') v v1 v2) u v1 v2 := by
  obtain ⟨h, s, hk', hv, kk, vv, sz, bg, ki, px, pa, pb, gn, gk, gv, sz', bg', kk', vv', T, rfl, rfl, h1, h2, h3, h4, h5⟩ := I
  rcases lz_ix v1 (n := s) (by omega) with z | ⟨d, hd, rfl⟩
  · unfold wpX_keyOf wpY_keyOf
    dsimp only
    exact lx_set0 z (br_t rfl (ly_set0 z (br_t rfl ⟨rfl, ir_mk h1 h2 h3 h4 h5⟩)))
  · have di : vp_in (nI d) 16 := vp_in_nI (by omega) (by omega)
    have H := h4 d hd
    unfold wpX_keyOf wpY_keyOf
    dsimp only
    unfold wpX_hasPair
    dsimp only
    rw [nI_clamp (n := d) (by omega)]
    refine lx_set1 h2 hd (br_f (by decide) ⟨di, ?_⟩)
    match e : T d with
    | none =>
      rw [e] at H
      have hb : bg d = 1 := H
      refine br_f (by rw [hb]; decide) (ly_set1 h2 hd (br_f (by decide) (ly_ask h2 hd h5 fun kk2 vv2 sz2 bg2 H2 => ⟨fun _ => br_t rfl ⟨rfl, ir_mk h1 h2 h3 h4 h5⟩, fun n K V e2 => ?_⟩)))
      rw [e] at e2
      cases e2
    | some (n, K, V) =>
      rw [e] at H
      have hb : bg d = 0 := H.1
      have hn := H.2.1
      have hz : sz d = nI n := H.2.2.1
      refine br_t hb ?_
      have N : T d = none → False := by
        intro e2
        rw [e] at e2
        cases e2
      have Z : ∀ kk2 vv2 sz2 bg2, (∀ e, e < d + 1 → ln_Ho e (T e) kk2 vv2 sz2 bg2) → ln_Ho d (some (n, K, V)) kk2 vv2 sz2 bg2 := by
        intro kk2 vv2 sz2 bg2 H2
        have Hd := H2 d (by omega)
        rw [e] at Hd
        exact Hd
      rw [hz]
      rcases pk_ix v2 (n := n) (by omega) with y | y | ⟨i, hi, rfl⟩
      · exact br_t y (br_t rfl (ly_set1 h2 hd (br_f (by decide) (ly_ask h2 hd h5 fun kk2 vv2 sz2 bg2 H2 => ⟨fun e2 => (N e2).elim, fun n2 K2 V2 e2 => br_f (by decide) (br_t y ⟨rfl, ir_mk h1 h2 h3 h4 h5⟩)⟩))))
      · refine br_c (fun y2 => br_t rfl (ly_set1 h2 hd (br_f (by decide) (ly_ask h2 hd h5 fun kk2 vv2 sz2 bg2 H2 => ⟨fun e2 => (N e2).elim, fun n2 K2 V2 e2 => br_f (by decide) (br_t y2 ⟨rfl, ir_mk h1 h2 h3 h4 h5⟩)⟩)))) fun y2 => ⟨di, br_t y (br_t rfl (ly_set1 h2 hd (br_f (by decide) (ly_ask h2 hd h5 fun kk2 vv2 sz2 bg2 H2 => ⟨fun e2 => (N e2).elim, fun n2 K2 V2 e2 => br_f (by decide) (br_f y2 ⟨di, br_t ?_ ⟨rfl, ir_mk h1 h2 h3 h4 h5⟩⟩)⟩))))⟩
        show sz2 d ≤ v2
        rw [(Z _ _ _ _ H2).2.2.1]
        exact y
      · obtain ⟨r1, r2, r3⟩ := ln_rh (by omega) H hi
        refine br_f (nI_pos (by omega)) ⟨di, br_f (nI_ge hi (by omega)) (br_f (by decide) (lx_first ?_))⟩
        rw [nI_add]
        refine ⟨r3, ly_set1 h2 hd (br_f (by decide) (ly_ask h2 hd h5 fun kk2 vv2 sz2 bg2 H2 => ⟨fun e2 => (N e2).elim, fun n2 K2 V2 e2 => br_f (by decide) (br_f (nI_pos (by omega)) ⟨di, br_f ?_ ?_⟩)⟩))⟩
        · show ¬ sz2 d ≤ nI i
          rw [(Z _ _ _ _ H2).2.2.1]
          exact nI_ge hi (by omega)
        · obtain ⟨q1, q2, q3⟩ := ln_rh (by omega) (Z _ _ _ _ H2) hi
          rw [ln_fq, nI_add]
          exact ⟨q3, q1.trans r1.symm, ir_mk h1 h2 h3 h4 h5⟩
theorem i_vc_valueOf {k : Nat} {u : SX} {v : SY} (I : i_Rel k u v) (hk : k + 5 ≤ 2560) (v1 : Int32) (v2 : Int32) : wpX_valueOf (fun r => wpY_valueOf (fun r' v' => r' = r ∧ i_Rel (k + 5) u v') v v1 v2) u v1 v2 := by
  obtain ⟨h, s, hk', hv, kk, vv, sz, bg, ki, px, pa, pb, gn, gk, gv, sz', bg', kk', vv', T, rfl, rfl, h1, h2, h3, h4, h5⟩ := I
  rcases lz_ix v1 (n := s) (by omega) with z | ⟨d, hd, rfl⟩
  · unfold wpX_valueOf wpY_valueOf
    dsimp only
    exact lx_set0 z (br_t rfl (ly_ask0 z (br_t rfl ⟨rfl, ir_mk h1 h2 h3 h4 h5⟩)))
  · have di : vp_in (nI d) 16 := vp_in_nI (by omega) (by omega)
    have H := h4 d hd
    unfold wpX_valueOf wpY_valueOf
    dsimp only
    unfold wpX_hasPair
    dsimp only
    rw [nI_clamp (n := d) (by omega)]
    refine lx_set1 h2 hd (br_f (by decide) ⟨di, ?_⟩)
    match e : T d with
    | none =>
      rw [e] at H
      have hb : bg d = 1 := H
      refine br_f (by rw [hb]; decide) (ly_ask h2 hd h5 fun kk2 vv2 sz2 bg2 H2 => ⟨fun _ => br_t rfl ⟨rfl, ir_mk h1 h2 h3 h4 h5⟩, fun n K V e2 => ?_⟩)
      rw [e] at e2
      cases e2
    | some (n, K, V) =>
      rw [e] at H
      have hb : bg d = 0 := H.1
      have hn := H.2.1
      have hz : sz d = nI n := H.2.2.1
      refine br_t hb ?_
      have N : T d = none → False := by
        intro e2
        rw [e] at e2
        cases e2
      have Z : ∀ kk2 vv2 sz2 bg2, (∀ e, e < d + 1 → ln_Ho e (T e) kk2 vv2 sz2 bg2) → ln_Ho d (some (n, K, V)) kk2 vv2 sz2 bg2 := by
        intro kk2 vv2 sz2 bg2 H2
        have Hd := H2 d (by omega)
        rw [e] at Hd
        exact Hd
      rw [hz]
      rcases pk_ix v2 (n := n) (by omega) with y | y | ⟨i, hi, rfl⟩
      · exact br_t y (br_t rfl (ly_ask h2 hd h5 fun kk2 vv2 sz2 bg2 H2 => ⟨fun e2 => (N e2).elim, fun n2 K2 V2 e2 => br_f (by decide) (br_t y ⟨rfl, ir_mk h1 h2 h3 h4 h5⟩)⟩))
      · refine br_c (fun y2 => br_t rfl (ly_ask h2 hd h5 fun kk2 vv2 sz2 bg2 H2 => ⟨fun e2 => (N e2).elim, fun n2 K2 V2 e2 => br_f (by decide) (br_t y2 ⟨rfl, ir_mk h1 h2 h3 h4 h5⟩)⟩)) fun y2 => ⟨di, br_t y (br_t rfl (ly_ask h2 hd h5 fun kk2 vv2 sz2 bg2 H2 => ⟨fun e2 => (N e2).elim, fun n2 K2 V2 e2 => br_f (by decide) (br_f y2 ⟨di, br_t ?_ ⟨rfl, ir_mk h1 h2 h3 h4 h5⟩⟩)⟩))⟩
        show sz2 d ≤ v2
        rw [(Z _ _ _ _ H2).2.2.1]
        exact y
      · obtain ⟨r1, r2, r3⟩ := ln_rh (by omega) H hi
        refine br_f (nI_pos (by omega)) ⟨di, br_f (nI_ge hi (by omega)) (br_f (by decide) (lx_first ?_))⟩
        rw [nI_add]
        refine ⟨r3, ly_ask h2 hd h5 fun kk2 vv2 sz2 bg2 H2 => ⟨fun e2 => (N e2).elim, fun n2 K2 V2 e2 => br_f (by decide) (br_f (nI_pos (by omega)) ⟨di, br_f ?_ ?_⟩)⟩⟩
        · show ¬ sz2 d ≤ nI i
          rw [(Z _ _ _ _ H2).2.2.1]
          exact nI_ge hi (by omega)
        · obtain ⟨q1, q2, q3⟩ := ln_rh (by omega) (Z _ _ _ _ H2) hi
          rw [ln_fq, nI_add]
          exact ⟨q3, q2.trans r2.symm, ir_mk h1 h2 h3 h4 h5⟩
theorem i_vc_total {k : Nat} {u : SX} {v : SY} (I : i_Rel k u v) (hk : k + 5 ≤ 2560) (v1 : Int32) : wpX_total (fun r => wpY_total (fun r' v' => r' = r ∧ i_Rel (k + 5) u v') v v1) u v1 := by
  obtain ⟨h, s, hk', hv, kk, vv, sz, bg, ki, px, pa, pb, gn, gk, gv, sz', bg', kk', vv', T, rfl, rfl, h1, h2, h3, h4, h5⟩ := I
  rcases lz_ix v1 (n := s) (by omega) with z | ⟨d, hd, rfl⟩
  · unfold wpX_total wpY_total
    dsimp only
    exact lx_set0 z (br_t rfl (ly_ask0 z (br_t rfl ⟨rfl, ir_mk h1 h2 h3 h4 h5⟩)))
  · have di : vp_in (nI d) 16 := vp_in_nI (by omega) (by omega)
    have H := h4 d hd
    unfold wpX_total wpY_total
    dsimp only
    rw [nI_clamp (n := d) (by omega)]
    refine lx_set1 h2 hd (br_f (by decide) ⟨di, ?_⟩)
    match e : T d with
    | none =>
      rw [e] at H
      have hb : bg d = 1 := H
      refine br_f (by rw [hb]; decide) (ly_ask h2 hd h5 fun kk2 vv2 sz2 bg2 H2 => ⟨fun _ => br_t rfl ⟨rfl, ir_mk h1 h2 h3 h4 h5⟩, fun n K V e2 => ?_⟩)
      rw [e] at e2
      cases e2
    | some (n, K, V) =>
      rw [e] at H
      have hb : bg d = 0 := H.1
      have hn := H.2.1
      have hz : sz d = nI n := H.2.2.1
      refine br_t hb (lx_first (lx_endh (by omega) H ⟨n + 1, lx_total_l (by omega) H n 0 0 (by omega) ?_⟩))
      refine ly_ask h2 hd h5 fun kk2 vv2 sz2 bg2 H2 => ⟨fun e2 => ?_, fun n2 K2 V2 e2 => br_f (by decide) (nm_r (ln_fq d) ⟨n + 1, ?_⟩)⟩
      · rw [e] at e2
        cases e2
      · have Hd := H2 d (by omega)
        rw [e] at Hd
        exact ly_total_l (by omega) Hd n 0 0 (by omega) ⟨rfl, ir_mk h1 h2 h3 h4 h5⟩
theorem i_vc_lookup {k : Nat} {u : SX} {v : SY} (I : i_Rel k u v) (hk : k + 5 ≤ 2560) (v1 : Int32) (v2 : Int32) : wpX_lookup (fun r => wpY_lookup (fun r' v' => r' = r ∧ i_Rel (k + 5) u v') v v1 v2) u v1 v2 := by
  obtain ⟨h, s, hk', hv, kk, vv, sz, bg, ki, px, pa, pb, gn, gk, gv, sz', bg', kk', vv', T, rfl, rfl, h1, h2, h3, h4, h5⟩ := I
  rcases lz_ix v1 (n := s) (by omega) with z | ⟨d, hd, rfl⟩
  · unfold wpX_lookup wpY_lookup
    dsimp only
    exact lx_set0 z (br_t rfl (ly_ask0 z (br_t rfl ⟨rfl, ir_mk h1 h2 h3 h4 h5⟩)))
  · have di : vp_in (nI d) 16 := vp_in_nI (by omega) (by omega)
    have H := h4 d hd
    unfold wpX_lookup wpY_lookup
    dsimp only
    rw [nI_clamp (n := d) (by omega)]
    refine lx_set1 h2 hd (br_f (by decide) ⟨di, ?_⟩)
    match e : T d with
    | none =>
      rw [e] at H
      have hb : bg d = 1 := H
      refine br_f (by rw [hb]; decide) (ly_ask h2 hd h5 fun kk2 vv2 sz2 bg2 H2 => ⟨fun _ => br_t rfl ⟨rfl, ir_mk h1 h2 h3 h4 h5⟩, fun n K V e2 => ?_⟩)
      rw [e] at e2
      cases e2
    | some (n, K, V) =>
      rw [e] at H
      have hb : bg d = 0 := H.1
      have hn := H.2.1
      have hz : sz d = nI n := H.2.2.1
      refine br_t hb (lx_first (lx_endh (by omega) H ⟨n + 1, lx_lookup_l (by omega) H n 0 0 (by omega) ?_⟩))
      refine ly_ask h2 hd h5 fun kk2 vv2 sz2 bg2 H2 => ⟨fun e2 => ?_, fun n2 K2 V2 e2 => br_f (by decide) (nm_r (ln_fq d) ⟨n + 1, ?_⟩)⟩
      · rw [e] at e2
        cases e2
      · have Hd := H2 d (by omega)
        rw [e] at Hd
        exact ly_lookup_l (by omega) Hd n 0 0 (by omega) ⟨rfl, ir_mk h1 h2 h3 h4 h5⟩
theorem i_vc_keep {k : Nat} {u : SX} {v : SY} (I : i_Rel k u v) (hk : k + 5 ≤ 2560) (v1 : Int32) (v2 : Int32) : wpX_keep (fun r => wpY_keep (fun r' => r' = r ∧ i_Rel (k + 5) u v) v v1 (lw_bz v2)) u v1 (lw_bz v2) := by
  obtain ⟨h, s, hk', hv, kk, vv, sz, bg, ki, px, pa, pb, gn, gk, gv, sz', bg', kk', vv', T, rfl, rfl, h1, h2, h3, h4, h5⟩ := I
  unfold wpX_keep wpY_keep
  dsimp only
  rcases lz_ix v1 (n := s) (by omega) with z | ⟨d, hd, rfl⟩
  · exact lx_set0 z ⟨lz_nb0, ly_set0 z ⟨lz_nb0, ⟨rfl, ir_mk h1 h2 h3 h4 h5⟩⟩⟩
  · exact lx_set1 h2 hd ⟨lz_nb1, ly_set1 h2 hd ⟨lz_nb1, ⟨rfl, ir_mk h1 h2 h3 h4 h5⟩⟩⟩
theorem i_vc_lose {k : Nat} {u : SX} {v : SY} (I : i_Rel k u v) (hk : k + 5 ≤ 2560) (v1 : Int32) : wpX_lose (fun r => wpY_lose (fun r' => r' = r ∧ i_Rel (k + 5) u v) v v1) u v1 := by
  obtain ⟨h, s, hk', hv, kk, vv, sz, bg, ki, px, pa, pb, gn, gk, gv, sz', bg', kk', vv', T, rfl, rfl, h1, h2, h3, h4, h5⟩ := I
  unfold wpX_lose wpY_lose
  dsimp only
  unfold wpY_in
  dsimp only
  by_cases c1 : v1 < 0
  · exact br_t c1 (br_t c1 ⟨lz_nb0, ⟨rfl, ir_mk h1 h2 h3 h4 h5⟩⟩)
  · obtain ⟨j, hj, rfl⟩ := nI_of c1
    by_cases c2 : j < 4
    · exact br_f c1 (br_f (nI_ge (b := 4) c2 (by decide)) (br_f c1 (br_f (nI_nlt (a := 3) (by omega) (by decide)) ⟨lz_nb1, ⟨rfl, ir_mk h1 h2 h3 h4 h5⟩⟩)))
    · exact br_f c1 (br_t (nI_le (a := 4) (by omega) hj) (br_f c1 (br_t (nI_lt (a := 3) (by omega) hj) ⟨lz_nb0, ⟨rfl, ir_mk h1 h2 h3 h4 h5⟩⟩)))
theorem i_vc_level {k : Nat} {u : SX} {v : SY} (I : i_Rel k u v) (hk : k + 5 ≤ 2560) (v1 : Int32) : wpX_level (fun r => wpY_level (fun r' => r' = r ∧ i_Rel (k + 5) u v) v v1) u v1 := by
  obtain ⟨h, s, hk', hv, kk, vv, sz, bg, ki, px, pa, pb, gn, gk, gv, sz', bg', kk', vv', T, rfl, rfl, h1, h2, h3, h4, h5⟩ := I
  unfold wpX_level wpY_level
  dsimp only
  unfold wpY_in
  dsimp only
  by_cases c1 : v1 < 0
  · exact br_t c1 (br_t c1 ⟨lz_nb0, ⟨rfl, ir_mk h1 h2 h3 h4 h5⟩⟩)
  · by_cases c2 : 2 < v1
    · exact br_f c1 (br_t c2 (br_f c1 (br_t c2 ⟨lz_nb0, ⟨rfl, ir_mk h1 h2 h3 h4 h5⟩⟩)))
    · exact br_f c1 (br_f c2 (br_f c1 (br_f c2 ⟨lz_nb1, ⟨rfl, ir_mk h1 h2 h3 h4 h5⟩⟩)))
theorem i_vc_discard {k : Nat} {u : SX} {v : SY} (I : i_Rel k u v) (hk : k + 5 ≤ 2560) : wpX_discard (fun r u' => wpY_discard (fun r' v' => r' = r ∧ i_Rel (k + 5) u' v') v) u := by
  obtain ⟨h, s, hk', hv, kk, vv, sz, bg, ki, px, pa, pb, gn, gk, gv, sz', bg', kk', vv', T, rfl, rfl, h1, h2, h3, h4, h5⟩ := I
  exact ⟨rfl, ir_mk (h := 0) (by omega) h2 (fun i hi => absurd hi (by omega)) h4 h5⟩
theorem i_vc_drop {k : Nat} {u : SX} {v : SY} (I : i_Rel k u v) (hk : k + 5 ≤ 2560) : wpX_drop (fun r u' => wpY_drop (fun r' v' => r' = r ∧ i_Rel (k + 5) u' v') v) u := by
  obtain ⟨h, s, hk', hv, kk, vv, sz, bg, ki, px, pa, pb, gn, gk, gv, sz', bg', kk', vv', T, rfl, rfl, h1, h2, h3, h4, h5⟩ := I
  unfold wpX_drop wpY_drop
  dsimp only
  match s, h2, h4, h5 with
  | 0, h2, h4, h5 => exact br_t rfl (br_t rfl ⟨rfl, ir_mk h1 h2 h3 h4 h5⟩)
  | s + 1, h2, h4, h5 =>
    have ne : ¬ nI (s + 1) = 0 := nI_ne0 (by omega) (by omega)
    exact br_f ne (nm_r (nI_pred s) (br_f ne (nm_r (nI_pred s) ⟨rfl, ir_mk h1 (by omega) h3 (fun e he => h4 e (by omega)) (fun e he => h5 e (by omega))⟩)))
