section
variable {T : Nat → ln_D} {d n : Nat} {K V kk0 vv0 sz bg hk hv ki px pa pb gn gk gv : Nat → Int32} {hh nn k v : Int32} {post : SY → Prop}
theorem ly_put_45 (hs : d < 16) (H : ln_Tb T d (some (n, K, V)) kk0 vv0 sz bg) (hn : n < 48)
    (P : ∀ kk' vv' sz', ln_Tb T d (ln_ap (some (n, K, V)) (k, v)) kk' vv' sz' bg → post (hh, nn, hk, hv, ki, px, pa, pb, gn, gk, gv, sz', bg, kk', vv')) :
    ∀ (m t j : Nat) (kk vv : Nat → Int32), t + m = 48 → j ≤ n → ln_In d n j K V kk0 vv0 kk vv → ln_po k v K V n = ln_po k v K V j → (j ≤ m ∨ ln_po k v K V j = j) →
    wY_put_45 post (nI d) k v hh nn (m + 1) (nI (48 * d + j)) (nI t) hk hv ki px pa pb gn gk gv sz bg kk vv := by
  intro m
  induction m with
  | zero =>
    intro t j kk vv ht hj hI hq hr
    have i1 : vp_in (nI (48 * d + j)) 768 := vp_in_nI (by omega) (by omega)
    have i2 : vp_in (nI d) 16 := vp_in_nI (by omega) (by omega)
    have hq2 : ln_po k v K V n = j := by
      rw [hq]
      rcases hr with z | z
      · have : j = 0 := by omega
        subst this
        rfl
      · exact z
    refine br_t (nI_le (a := 48) (by omega) (by omega)) ?_
    rw [nI_clamp (n := 48 * d + j) (by omega), nI_clamp (n := d) (by omega)]
    exact ⟨i1, nm_e ⟨i1, nm_e ⟨i2, i2, nm_e (P _ _ _ (ln_In_e H hn hI hq2))⟩⟩⟩
  | succ m ih =>
    intro t j kk vv ht hj hI hq hr
    refine br_f (nI_ge (b := 48) (by omega) (by omega)) ?_
    rw [ln_fq]
    match j, hj, hI, hq, hr with
    | 0, hj, hI, hq, hr =>
      refine br_t (nI_le (by omega) (by omega)) (nm_r (nI_1 t) ?_)
      exact ih (t + 1) 0 kk vv (by omega) hj hI hq (Or.inl (by omega))
    | j + 1, hj, hI, hq, hr =>
      have e1 : nI (48 * d + (j + 1)) - 1 = nI (48 * d + j) := nI_pred (48 * d + j)
      have e2 : nI (48 * d + (j + 1)) + (-1) = nI (48 * d + j) := pk_m1 (48 * d + j)
      have i1 : vp_in (nI (48 * d + j)) 768 := vp_in_nI (by omega) (by omega)
      have i2 : vp_in (nI (48 * d + (j + 1))) 768 := vp_in_nI (by omega) (by omega)
      have r := hI.1 j (by omega)
      have u : ln_po k v K V (j + 1) = if k < K j ∨ (k = K j ∧ v < V j) then ln_po k v K V j else j + 1 := rfl
      have S : (k < K j ∨ (k = K j ∧ v < V j)) → wY_put_100 post (wY_put_45 post (nI d) k v hh nn (m + 1)) (nI d) k v (nI (48 * d + (j + 1))) (nI t) hh nn hk hv ki px pa pb gn gk gv sz bg kk vv := by
        intro c
        unfold wY_put_100
        rw [e1, e2, nI_clamp (n := 48 * d + j) (by omega), nI_clamp (n := 48 * d + (j + 1)) (by omega)]
        rw [u, if_pos c] at hq hr
        have hl := ln_po_le k v K V j
        refine ⟨i1, i2, nm_e ⟨i1, i2, nm_e (nm_e (nm_r (nI_1 t) ?_))⟩⟩
        exact ih (t + 1) j _ _ (by omega) (by omega) (ln_In_s hI hj) hq (Or.inl (by omega))
      have N : ¬ (k < K j ∨ (k = K j ∧ v < V j)) → wY_put_45 post (nI d) k v hh nn (m + 1) (nI (48 * d + (j + 1))) (nI (t + 1)) hk hv ki px pa pb gn gk gv sz bg kk vv := by
        intro c
        refine ih (t + 1) (j + 1) kk vv (by omega) hj hI hq (Or.inr ?_)
        rw [u, if_neg c]
      refine br_f (nI_ge (by omega) (by omega)) ?_
      rw [e1, nI_clamp (n := 48 * d + j) (by omega), r.1, r.2]
      refine ⟨i1, br_c (fun c => S (Or.inl c)) fun c => ⟨i1, br_c (fun c2 => ⟨i1, br_c (fun c3 => nm_r (nI_1 t) (N ?_)) fun c3 => S (Or.inr ⟨c2.symm, Int32.not_le.mp c3⟩)⟩) fun c2 => nm_r (nI_1 t) (N ?_)⟩⟩
      · rintro (z | ⟨_, z⟩)
        · exact c z
        · exact (Int32.not_lt.mpr c3) z
      · rintro (z | ⟨z, _⟩)
        · exact c z
        · exact c2 z.symm
theorem ly_put {D : ln_D} {kk vv : Nat → Int32} {key val : Int32} (hs : d < 16) (H : ln_Tb T d D kk vv sz bg) (ek : key = k) (ev : val = v)
    (P : ∀ kk' vv' sz' bg', ln_Tb T d (ln_ap D (k, v)) kk' vv' sz' bg' → post (hh, nn, hk, hv, ki, px, pa, pb, gn, gk, gv, sz', bg', kk', vv')) :
    wpY_put post (hh, nn, hk, hv, ki, px, pa, pb, gn, gk, gv, sz, bg, kk, vv) (nI d) key val := by
  subst ek ev
  have i2 : vp_in (nI d) 16 := vp_in_nI (by omega) (by omega)
  unfold wpY_put
  dsimp only
  rw [nI_clamp (n := d) (by omega), lx_nar1]
  match D, H, P with
  | none, H, P =>
    refine ⟨i2, br_f ?_ (P _ _ _ _ H)⟩
    rw [H.2.1]
    decide
  | some (n, K, V), H, P =>
    obtain ⟨h1, h2, h3, h4⟩ := H.2
    refine ⟨i2, br_t h1 ⟨i2, br_c (fun c => ⟨i2, nm_e (P _ _ _ _ (ln_Tb_full H ?_))⟩) fun c => ⟨i2, ?_⟩⟩⟩
    · rw [c]
      decide
    · rw [h3] at c ⊢
      have hn : n < 48 := by
        have : n ≠ 48 := fun z => c (by rw [z]; rfl)
        omega
      rw [ln_fq, nI_add]
      refine nm_e ⟨49, ?_⟩
      exact ly_put_45 hs H hn (fun kk' vv' sz' => P kk' vv' sz' bg) 48 0 n kk vv (by omega) (Nat.le_refl _) (ln_In_0 H) rfl (Or.inl (by omega))
end
