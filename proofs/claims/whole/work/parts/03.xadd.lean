theorem lx_nar0 : vp_nar .boolean 0 = 0 := by decide
theorem lx_nar1 : vp_nar .boolean 1 = 1 := by decide
theorem lx_isBefore {h s : Int32} {hk hv kk vv sz bg : Nat → Int32} {post : Int32 → Prop} {k v p : Int32} (hin : vp_in p 768)
    (P1 : (k < kk p.toNatClampNeg ∨ (k = kk p.toNatClampNeg ∧ v < vv p.toNatClampNeg)) → post 1)
    (P0 : ¬ (k < kk p.toNatClampNeg ∨ (k = kk p.toNatClampNeg ∧ v < vv p.toNatClampNeg)) → post 0) :
    wpX_isBefore post (h, s, hk, hv, kk, vv, sz, bg) k v p := by
  refine ⟨hin, br_c (fun c => P1 (Or.inl c)) fun c => ⟨hin, br_c (fun d => ⟨hin, br_c (fun e => P0 ?_) fun e => P1 (Or.inr ⟨d, ?_⟩)⟩) fun d => P0 ?_⟩⟩
  · rintro (z | ⟨_, z⟩)
    · exact c z
    · exact (Int32.not_lt.mpr e) z
  · exact Int32.not_le.mp e
  · rintro (z | ⟨z, _⟩)
    · exact c z
    · exact d z
section
variable {T : Nat → ln_D} {s n : Nat} {K V kk0 vv0 sz bg hk hv : Nat → Int32} {h k v : Int32} {post : SX → Prop}
theorem lx_add_100 (hs : s < 16) (H : ln_Tb T s (some (n, K, V)) kk0 vv0 sz bg) (hn : n < 48)
    (P : ∀ kk' vv' sz', ln_Tb T s (ln_ap (some (n, K, V)) (k, v)) kk' vv' sz' bg → post (h, nI s, hk, hv, kk', vv', sz', bg))
    {q : Nat} {kk vv : Nat → Int32} (hI : ln_In s n q K V kk0 vv0 kk vv) (hq : ln_po k v K V n = q) :
    wX_add_100 post k v (nI (48 * s + q)) h (nI s) hk hv kk vv sz bg := by
  have hle : q ≤ n := by rw [← hq]; exact ln_po_le k v K V n
  have i1 : vp_in (nI (48 * s + q)) 768 := vp_in_nI (by omega) (by omega)
  have i2 : vp_in (nI s) 16 := vp_in_nI (by omega) (by omega)
  unfold wX_add_100
  rw [nI_clamp (n := 48 * s + q) (by omega), nI_clamp (n := s) (by omega)]
  exact ⟨i1, nm_e ⟨i1, nm_e ⟨i2, i2, nm_e (P _ _ _ (ln_In_e H hn hI hq))⟩⟩⟩
theorem lx_add_43 (hs : s < 16) (H : ln_Tb T s (some (n, K, V)) kk0 vv0 sz bg) (hn : n < 48)
    (P : ∀ kk' vv' sz', ln_Tb T s (ln_ap (some (n, K, V)) (k, v)) kk' vv' sz' bg → post (h, nI s, hk, hv, kk', vv', sz', bg)) :
    ∀ (j : Nat) (kk vv : Nat → Int32), j ≤ n → ln_In s n j K V kk0 vv0 kk vv → ln_po k v K V n = ln_po k v K V j →
    wX_add_43 post k v (nI (48 * s)) h (nI s) (j + 1) (nI (48 * s + j)) hk hv kk vv sz bg := by
  intro j
  induction j with
  | zero =>
    intro kk vv hj hI hq
    refine br_t (nI_le (by omega) (by omega)) ?_
    exact lx_add_100 hs H hn P hI hq
  | succ j ih =>
    intro kk vv hj hI hq
    have e1 : nI (48 * s + (j + 1)) - 1 = nI (48 * s + j) := nI_pred (48 * s + j)
    have e2 : nI (48 * s + (j + 1)) + (-1) = nI (48 * s + j) := pk_m1 (48 * s + j)
    have i1 : vp_in (nI (48 * s + j)) 768 := vp_in_nI (by omega) (by omega)
    have i2 : vp_in (nI (48 * s + (j + 1))) 768 := vp_in_nI (by omega) (by omega)
    have r := hI.1 j (by omega)
    refine br_f (nI_ge (by omega) (by omega)) ?_
    rw [e1, e2]
    refine lx_isBefore i1 (fun c => ?_) (fun c => ?_)
    · rw [nI_clamp (n := 48 * s + j) (by omega), nI_clamp (n := 48 * s + (j + 1)) (by omega)]
      rw [nI_clamp (n := 48 * s + j) (by omega), r.1, r.2] at c
      refine br_f (by decide) ⟨i1, i2, nm_e ⟨i1, i2, nm_e (nm_e ?_)⟩⟩
      refine ih _ _ (by omega) (ln_In_s hI hj) ?_
      rw [hq]
      show (if k < K j ∨ (k = K j ∧ v < V j) then ln_po k v K V j else j + 1) = _
      rw [if_pos c]
    · rw [nI_clamp (n := 48 * s + j) (by omega), r.1, r.2] at c
      refine br_t rfl ?_
      refine lx_add_100 hs H hn P hI ?_
      rw [hq]
      show (if k < K j ∨ (k = K j ∧ v < V j) then ln_po k v K V j else j + 1) = _
      rw [if_neg c]
theorem lx_add {D : ln_D} {kk vv : Nat → Int32} {key val : Int32} (hs : s < 16) (H : ln_Tb T s D kk vv sz bg) (ek : key = k) (ev : val = v)
    (P : ∀ kk' vv' sz' bg', ln_Tb T s (ln_ap D (k, v)) kk' vv' sz' bg' → post (h, nI s, hk, hv, kk', vv', sz', bg')) :
    wpX_add post (h, nI s, hk, hv, kk, vv, sz, bg) key val := by
  subst ek ev
  have i2 : vp_in (nI s) 16 := vp_in_nI (by omega) (by omega)
  unfold wpX_add
  dsimp only
  rw [nI_clamp (n := s) (by omega)]
  refine ⟨i2, br_c (fun c => ?_) fun c => ⟨i2, nm_e (P _ _ _ _ ?_)⟩⟩
  · unfold wpX_firstPlace wpX_endPlace
    dsimp only
    rw [nI_clamp (n := s) (by omega), ln_fp]
    match D, H, P with
    | none, H, P =>
      rw [H.2.2] at c
      exact absurd c (by decide)
    | some (n, K, V), H, P =>
      obtain ⟨h1, h2, h3, h4⟩ := H.2
      rw [h3] at c ⊢
      have hn : n < 48 := (nI_ltI (b := 48) (by omega) (by decide)).mp c
      rw [nI_add]
      exact ⟨i2, n + 1, lx_add_43 hs H hn (fun kk' vv' sz' => P kk' vv' sz' bg) n kk vv (Nat.le_refl _) (ln_In_0 H) rfl⟩
  · rw [lx_nar1]
    exact ln_Tb_full H c
end
