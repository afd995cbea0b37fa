section
variable {T : Nat → ln_D} {y n : Nat} {K V : Nat → Int32} {x a b : Int32} {gl : ln_L}
theorem ln_rs_0 : ln_rs T 0 x a b gl = ln_fo ln_e0 gl := rfl
theorem ln_rs_1 (hy : y < 16) (hT : T y = some (n, K, V)) : ln_rs T 1 (nI y) a b gl = ln_fo ln_e0 (ln_sq (ln_g1 a b K V) n 0) := by
  unfold ln_rs
  rw [nI_clamp (n := y) (by omega), hT]
  rfl
theorem ln_rs_2 (hy : y < 16) (hT : T y = some (n, K, V)) : ln_rs T 2 (nI y) a b gl = ln_fo ln_e0 (ln_sq (ln_g2 a K V) n 0) := by
  unfold ln_rs
  rw [nI_clamp (n := y) (by omega), hT]
  rfl
theorem ln_rs_3 (hy : y < 16) (hT : T y = some (n, K, V)) : ln_rs T 3 (nI y) a b gl = ln_fo ln_e0 (ln_sq (ln_g3 a b K V) n 0) := by
  unfold ln_rs
  rw [nI_clamp (n := y) (by omega), hT]
  rfl
theorem ln_rs_6 (hy : y < 16) (hT : T y = some (n, K, V)) : ln_rs T 6 (nI y) a b gl = ln_fo ln_e0 (ln_sq (ln_g6 a n K V) n 0) := by
  unfold ln_rs
  rw [nI_clamp (n := y) (by omega), hT]
  rfl
theorem ln_rs_8 (hy : y < 16) (hT : T y = some (n, K, V)) : ln_rs T 8 (nI y) a b gl = ln_fo ln_e0 (ln_sq (ln_g8 K V) n 0) := by
  unfold ln_rs
  rw [nI_clamp (n := y) (by omega), hT]
  rfl
theorem ln_rs_10 (hy : y < 16) (hT : T y = some (n, K, V)) : ln_rs T 10 (nI y) a b gl = ln_fo ln_e0 (ln_sq (ln_ga a n K V) n 0) := by
  unfold ln_rs
  rw [nI_clamp (n := y) (by omega), hT]
  rfl
theorem ln_rs_11 (hy : y < 16) (hT : T y = some (n, K, V)) : ln_rs T 11 (nI y) a b gl = ln_fo ln_e0 (ln_sq (ln_gb K V) n 0) := by
  unfold ln_rs
  rw [nI_clamp (n := y) (by omega), hT]
  rfl
theorem ln_rs_4 {t : Nat} (ht : t ≤ 3) (hy : y < 16) (hT : T y = some (n, K, V)) : ln_rs T 4 (nI y) (nI t) b gl = ln_fo ln_e0 (ln_sq (ln_g4 t K V) n 0) := by
  unfold ln_rs
  rw [nI_clamp (n := y) (by omega), hT, nI_clamp (n := t) (by omega)]
  rfl
theorem ln_rs_5 {z m : Nat} {K' V' : Nat → Int32} (hy : y < 16) (hT : T y = some (n, K, V)) (hz : z < 16) (hU : T z = some (m, K', V')) : ln_rs T 5 (nI y) (nI z) b gl = ln_fo (ln_fo ln_e0 (ln_sq (ln_g4 1 K V) n 0)) (ln_sq (ln_g4 1 K' V') m 0) := by
  unfold ln_rs
  rw [nI_clamp (n := y) (by omega), hT, nI_clamp (n := z) (by omega), hU]
  rfl
theorem ln_rs_7 {z m : Nat} {K' V' : Nat → Int32} (hy : y < 16) (hT : T y = some (n, K, V)) (hz : z < 16) (hU : T z = some (m, K', V')) : ln_rs T 7 (nI y) (nI z) b gl = ln_fo ln_e0 (ln_sq (ln_g7 m K' V' K V) n 0) := by
  unfold ln_rs
  rw [nI_clamp (n := y) (by omega), hT, nI_clamp (n := z) (by omega), hU]
  rfl
theorem ln_rs_9 {z m : Nat} {K' V' : Nat → Int32} (hy : y < 16) (hT : T y = some (n, K, V)) (hz : z < 16) (hU : T z = some (m, K', V')) : ln_rs T 9 (nI y) (nI z) b gl = ln_fo ln_e0 (ln_sq (ln_g9 m K' K V) n 0) := by
  unfold ln_rs
  rw [nI_clamp (n := y) (by omega), hT, nI_clamp (n := z) (by omega), hU]
  rfl
theorem ln_rs_x {o : Int32} (ho : ¬ o = 0) (hy : y < 16) (hT : T y = none) : ln_rs T o (nI y) a b gl = none := by
  unfold ln_rs
  rw [if_neg ho, nI_clamp (n := y) (by omega), hT]
theorem ln_rs_a {o : Int32} {z : Nat} (ho : o = 5 ∨ o = 7 ∨ o = 9) (hy : y < 16) (hT : T y = some (n, K, V)) (hz : z < 16) (hU : T z = none) : ln_rs T o (nI y) (nI z) b gl = none := by
  have h0 : ¬ o = 0 := by
    rintro rfl
    revert ho
    decide
  unfold ln_rs
  rw [if_neg h0, nI_clamp (n := y) (by omega), hT, nI_clamp (n := z) (by omega), hU]
  dsimp only
  rw [if_pos ho]
end
section
variable {T : Nat → ln_D} {s y n : Nat} {K V kk vv sz bg hk hv : Nat → Int32} {h a b : Int32} {post : SX → Prop} {gl : ln_L}
theorem lx_w1 (hs : s < 16) (H : ln_Tb T s ln_e0 kk vv sz bg) (hy : y < s) (hT : T y = some (n, K, V))
    (P : ∀ kk' vv' sz' bg', ln_Tb T s (ln_rs T 1 (nI y) a b gl) kk' vv' sz' bg' → post (h, nI s, hk, hv, kk', vv', sz', bg')) :
    wpX_workOut post (h, nI s, hk, hv, kk, vv, sz, bg) 1 (nI y) a b := by
  rw [ln_rs_1 (by omega) hT] at P
  unfold wpX_workOut
  dsimp only
  exact br_f (by decide) (br_f (by decide) (br_f (by decide) (br_t rfl (lx_addScaled hs H hy hT P))))
theorem lx_w2 (hs : s < 16) (H : ln_Tb T s ln_e0 kk vv sz bg) (hy : y < s) (hT : T y = some (n, K, V))
    (P : ∀ kk' vv' sz' bg', ln_Tb T s (ln_rs T 2 (nI y) a b gl) kk' vv' sz' bg' → post (h, nI s, hk, hv, kk', vv', sz', bg')) :
    wpX_workOut post (h, nI s, hk, hv, kk, vv, sz, bg) 2 (nI y) a b := by
  rw [ln_rs_2 (by omega) hT] at P
  unfold wpX_workOut
  dsimp only
  exact br_f (by decide) (br_f (by decide) (br_f (by decide) (br_f (by decide) (br_t rfl (lx_addAtLeast hs H hy hT P)))))
theorem lx_w3 (hs : s < 16) (H : ln_Tb T s ln_e0 kk vv sz bg) (hy : y < s) (hT : T y = some (n, K, V))
    (P : ∀ kk' vv' sz' bg', ln_Tb T s (ln_rs T 3 (nI y) a b gl) kk' vv' sz' bg' → post (h, nI s, hk, hv, kk', vv', sz', bg')) :
    wpX_workOut post (h, nI s, hk, hv, kk, vv, sz, bg) 3 (nI y) a b := by
  rw [ln_rs_3 (by omega) hT] at P
  unfold wpX_workOut
  dsimp only
  exact br_f (by decide) (br_f (by decide) (br_f (by decide) (br_f (by decide) (br_f (by decide) (br_t rfl (lx_addRekeyed hs H hy hT P))))))
theorem lx_w6 (hs : s < 16) (H : ln_Tb T s ln_e0 kk vv sz bg) (hy : y < s) (hT : T y = some (n, K, V))
    (P : ∀ kk' vv' sz' bg', ln_Tb T s (ln_rs T 6 (nI y) a b gl) kk' vv' sz' bg' → post (h, nI s, hk, hv, kk', vv', sz', bg')) :
    wpX_workOut post (h, nI s, hk, hv, kk, vv, sz, bg) 6 (nI y) a b := by
  rw [ln_rs_6 (by omega) hT] at P
  unfold wpX_workOut
  dsimp only
  exact br_f (by decide) (br_f (by decide) (br_f (by decide) (br_f (by decide) (br_f (by decide) (br_f (by decide) (br_f (by decide) (br_f (by decide) (br_t rfl (lx_addFolded hs H hy hT P)))))))))
theorem lx_w8 (hs : s < 16) (H : ln_Tb T s ln_e0 kk vv sz bg) (hy : y < s) (hT : T y = some (n, K, V))
    (P : ∀ kk' vv' sz' bg', ln_Tb T s (ln_rs T 8 (nI y) a b gl) kk' vv' sz' bg' → post (h, nI s, hk, hv, kk', vv', sz', bg')) :
    wpX_workOut post (h, nI s, hk, hv, kk, vv, sz, bg) 8 (nI y) a b := by
  rw [ln_rs_8 (by omega) hT] at P
  unfold wpX_workOut
  dsimp only
  exact br_f (by decide) (br_f (by decide) (br_f (by decide) (br_f (by decide) (br_f (by decide) (br_f (by decide) (br_f (by decide) (br_f (by decide) (br_f (by decide) (br_f (by decide) (br_t rfl (lx_addDistinct hs H hy hT P)))))))))))
theorem lx_w10 (hs : s < 16) (H : ln_Tb T s ln_e0 kk vv sz bg) (hy : y < s) (hT : T y = some (n, K, V))
    (P : ∀ kk' vv' sz' bg', ln_Tb T s (ln_rs T 10 (nI y) a b gl) kk' vv' sz' bg' → post (h, nI s, hk, hv, kk', vv', sz', bg')) :
    wpX_workOut post (h, nI s, hk, hv, kk, vv, sz, bg) 10 (nI y) a b := by
  rw [ln_rs_10 (by omega) hT] at P
  unfold wpX_workOut
  dsimp only
  exact br_f (by decide) (br_f (by decide) (br_f (by decide) (br_f (by decide) (br_f (by decide) (br_f (by decide) (br_f (by decide) (br_f (by decide) (br_f (by decide) (br_f (by decide) (br_f (by decide) (br_f (by decide) (br_t rfl (lx_addLast hs H hy hT P)))))))))))))
theorem lx_w11 (hs : s < 16) (H : ln_Tb T s ln_e0 kk vv sz bg) (hy : y < s) (hT : T y = some (n, K, V))
    (P : ∀ kk' vv' sz' bg', ln_Tb T s (ln_rs T 11 (nI y) a b gl) kk' vv' sz' bg' → post (h, nI s, hk, hv, kk', vv', sz', bg')) :
    wpX_workOut post (h, nI s, hk, hv, kk, vv, sz, bg) 11 (nI y) a b := by
  rw [ln_rs_11 (by omega) hT] at P
  unfold wpX_workOut
  dsimp only
  exact br_f (by decide) (br_t (by decide) (lx_addSwapped hs H hy hT P))
theorem lx_w4 {t : Nat} (ht : t ≤ 3) (hs : s < 16) (H : ln_Tb T s ln_e0 kk vv sz bg) (hy : y < s) (hT : T y = some (n, K, V))
    (P : ∀ kk' vv' sz' bg', ln_Tb T s (ln_rs T 4 (nI y) (nI t) b gl) kk' vv' sz' bg' → post (h, nI s, hk, hv, kk', vv', sz', bg')) :
    wpX_workOut post (h, nI s, hk, hv, kk, vv, sz, bg) 4 (nI y) (nI t) b := by
  rw [ln_rs_4 ht (by omega) hT] at P
  unfold wpX_workOut
  dsimp only
  exact br_f (by decide) (br_f (by decide) (br_f (by decide) (br_f (by decide) (br_f (by decide) (br_f (by decide) (br_t rfl (lx_addRepeated (by omega) hs H hy hT P)))))))
theorem lx_w5 {z m : Nat} {K' V' : Nat → Int32} (hs : s < 16) (H : ln_Tb T s ln_e0 kk vv sz bg) (hy : y < s) (hT : T y = some (n, K, V)) (hz : z < s) (hU : T z = some (m, K', V'))
    (P : ∀ kk' vv' sz' bg', ln_Tb T s (ln_rs T 5 (nI y) (nI z) b gl) kk' vv' sz' bg' → post (h, nI s, hk, hv, kk', vv', sz', bg')) :
    wpX_workOut post (h, nI s, hk, hv, kk, vv, sz, bg) 5 (nI y) (nI z) b := by
  rw [ln_rs_5 (by omega) hT (by omega) hU] at P
  unfold wpX_workOut
  dsimp only
  exact br_f (by decide) (br_f (by decide) (br_f (by decide) (br_f (by decide) (br_f (by decide) (br_f (by decide) (br_f (by decide) (br_t rfl (lx_addRepeated (t := 1) (by omega) hs H hy hT fun kk' vv' sz' bg' H' => lx_addRepeated (t := 1) (by omega) hs H' hz hU P))))))))
theorem lx_w7 {z m : Nat} {K' V' : Nat → Int32} (hs : s < 16) (H : ln_Tb T s ln_e0 kk vv sz bg) (hy : y < s) (hT : T y = some (n, K, V)) (hz : z < s) (hU : T z = some (m, K', V'))
    (P : ∀ kk' vv' sz' bg', ln_Tb T s (ln_rs T 7 (nI y) (nI z) b gl) kk' vv' sz' bg' → post (h, nI s, hk, hv, kk', vv', sz', bg')) :
    wpX_workOut post (h, nI s, hk, hv, kk, vv, sz, bg) 7 (nI y) (nI z) b := by
  rw [ln_rs_7 (by omega) hT (by omega) hU] at P
  unfold wpX_workOut
  dsimp only
  exact br_f (by decide) (br_f (by decide) (br_f (by decide) (br_f (by decide) (br_f (by decide) (br_f (by decide) (br_f (by decide) (br_f (by decide) (br_f (by decide) (br_t rfl (lx_addJoined hs H hy hT hz hU P))))))))))
theorem lx_w9 {z m : Nat} {K' V' : Nat → Int32} (hs : s < 16) (H : ln_Tb T s ln_e0 kk vv sz bg) (hy : y < s) (hT : T y = some (n, K, V)) (hz : z < s) (hU : T z = some (m, K', V'))
    (P : ∀ kk' vv' sz' bg', ln_Tb T s (ln_rs T 9 (nI y) (nI z) b gl) kk' vv' sz' bg' → post (h, nI s, hk, hv, kk', vv', sz', bg')) :
    wpX_workOut post (h, nI s, hk, hv, kk, vv, sz, bg) 9 (nI y) (nI z) b := by
  rw [ln_rs_9 (by omega) hT (by omega) hU] at P
  unfold wpX_workOut
  dsimp only
  exact br_f (by decide) (br_f (by decide) (br_f (by decide) (br_f (by decide) (br_f (by decide) (br_f (by decide) (br_f (by decide) (br_f (by decide) (br_f (by decide) (br_f (by decide) (br_f (by decide) (br_t rfl (lx_addWithout hs H hy hT hz hU P))))))))))))
theorem lx_w0 {hn : Nat} {x : Int32} (hh : hn ≤ 24) (hs : s < 16) (H : ln_Tb T s ln_e0 kk vv sz bg)
    (P : ∀ kk' vv' sz' bg', ln_Tb T s (ln_rs T 0 x a b (ln_sq (fun i => [(hk i, hv i)]) hn 0)) kk' vv' sz' bg' → post (0, nI s, hk, hv, kk', vv', sz', bg')) :
    wpX_workOut post (nI hn, nI s, hk, hv, kk, vv, sz, bg) 0 x a b := by
  unfold wpX_workOut
  dsimp only
  exact br_f (by decide) (br_f (by decide) (br_t rfl (lx_addHand hh hs H P)))
end
theorem ln_start {T : Nat → ln_D} {s : Nat} {kk vv sz bg : Nat → Int32} (H : ∀ e, e < s → ln_Ho e (T e) kk vv sz bg) : ln_Tb T s ln_e0 kk vv (upd sz s 0) (upd bg s 0) :=
  ⟨fun e he => ln_Ho_fr he (H e he) (fun _ _ => ⟨rfl, rfl⟩) (pk_un (by omega)) (pk_un (by omega)), pk_us, Nat.zero_le _, pk_us, fun i hi => absurd hi (by omega)⟩
theorem ln_startb {T : Nat → ln_D} {s : Nat} {kk vv sz bg : Nat → Int32} {z : Int32} (H : ∀ e, e < s → ln_Ho e (T e) kk vv sz bg) : (∀ e, e < s → ln_Ho e (T e) kk vv (upd sz s z) (upd bg s 1)) ∧ ln_Ho s none kk vv (upd sz s z) (upd bg s 1) :=
  ⟨fun e he => ln_Ho_fr he (H e he) (fun _ _ => ⟨rfl, rfl⟩) (pk_un (by omega)) (pk_un (by omega)), pk_us⟩
