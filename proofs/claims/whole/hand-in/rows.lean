section
theorem pk_us {f : Nat → Int32} {k : Nat} {x : Int32} : upd f k x k = x := if_pos rfl
theorem pk_un {f : Nat → Int32} {k j : Nat} {x : Int32} (h : j ≠ k) : upd f k x j = f j := if_neg h
theorem pk_sub {a b : Nat} (h : b ≤ a) : nI a - nI b = nI (a - b) := by
  obtain ⟨c, rfl⟩ : ∃ c, a = c + b := ⟨a - b, by omega⟩
  rw [← nI_add, Int32.add_sub_cancel, Nat.add_sub_cancel]
theorem pk_m1 (n : Nat) : nI (n + 1) + (-1) = nI n := by
  rw [← nI_1, Int32.add_assoc, show (1 : Int32) + (-1) = 0 from rfl, Int32.add_zero]
theorem pk_mul (a b : Nat) : nI a * nI b = nI (a * b) := (Int32.ofNat_mul a b).symm
theorem pk_div {a d : Nat} (ha : a < 2 ^ 31) (h0 : 0 < d) (hd : d < 2 ^ 31) : nI a / nI d = nI (a / d) := by
  apply Int32.toInt_inj.mp
  rw [lg_idiv_nonneg (by rw [nI_toInt ha]; omega) (by rw [nI_toInt hd]; omega), nI_toInt ha, nI_toInt hd, nI_toInt (Nat.lt_of_le_of_lt (Nat.div_le_self a d) ha)]
  first | rfl | exact (Int.natCast_ediv _ _).symm
theorem pk_rem {a d : Nat} (ha : a < 2 ^ 31) (h0 : 0 < d) (hd : d < 2 ^ 31) : nI a - nI a / nI d * nI d = nI (a % d) := by
  rw [pk_div ha h0 hd, pk_mul, pk_sub (Nat.div_mul_le_self a d)]
  exact congrArg nI (by have := Nat.div_add_mod' a d; omega)
theorem pk_ix (x : Int32) {n : Nat} (hn : n < 2 ^ 31) : x < 0 ∨ nI n ≤ x ∨ ∃ j : Nat, j < n ∧ x = nI j := by
  by_cases h : x < 0
  · exact Or.inl h
  · obtain ⟨j, hj, rfl⟩ := nI_of h
    by_cases h2 : j < n
    · exact Or.inr (Or.inr ⟨j, h2, rfl⟩)
    · exact Or.inr (Or.inl (nI_le (by omega) hj))
theorem pk_le {x y : Int32} {A B : Prop} (a b : Nat) (f : a ≤ b → A) (g : b < a → B) (hx : x = nI a := by rfl) (hy : y = nI b := by rfl) (ha : a < 2 ^ 31 := by omega) (hb : b < 2 ^ 31 := by omega) : (x ≤ y → A) ∧ (¬ x ≤ y → B) := by
  subst hx hy
  rw [nI_leI ha hb]
  exact ⟨f, fun z => g (by omega)⟩
theorem pk_lt {x y : Int32} {A B : Prop} (a b : Nat) (f : a < b → A) (g : b ≤ a → B) (hx : x = nI a := by rfl) (hy : y = nI b := by rfl) (ha : a < 2 ^ 31 := by omega) (hb : b < 2 ^ 31 := by omega) : (x < y → A) ∧ (¬ x < y → B) := by
  subst hx hy
  rw [nI_ltI ha hb]
  exact ⟨f, fun z => g (by omega)⟩
theorem pk_eq {x y : Int32} {A B : Prop} (a b : Nat) (f : a = b → A) (g : a ≠ b → B) (hx : x = nI a := by rfl) (hy : y = nI b := by rfl) (ha : a < 2 ^ 31 := by omega) (hb : b < 2 ^ 31 := by omega) : (x = y → A) ∧ (¬ x = y → B) := by
  subst hx hy
  rw [nI_eq ha hb]
  exact ⟨f, g⟩
theorem pk_in {x : Int32} (n N : Nat) (h : n < N) (hx : x = nI n := by rfl) (hN : N < 2 ^ 31 := by omega) : vp_in x N := by
  subst hx
  exact vp_in_nI h hN
theorem pk_cl {x : Int32} (n : Nat) (hx : x = nI n := by rfl) (h : n < 2 ^ 31 := by omega) : x.toNatClampNeg = n := by
  subst hx
  exact nI_clamp h
theorem pk_tn {n : Nat} (h : n < 2 ^ 32) : (nI n).toBitVec.toNat = n := Nat.mod_eq_of_lt h
theorem pk_and (x : Int32) {m : Int32} (k : Nat) (hm : m.toBitVec.toNat = 2 ^ k - 1) : x &&& m = nI (x.toBitVec.toNat % 2 ^ k) := by
  apply Int32.toBitVec_inj.mp
  apply BitVec.eq_of_toNat_eq
  rw [Int32.toBitVec_and, BitVec.toNat_and, hm, Nat.and_two_pow_sub_one_eq_mod]
  show _ = (BitVec.ofNat 32 _).toNat
  rw [BitVec.toNat_ofNat]
  exact (Nat.mod_eq_of_lt (Nat.lt_of_le_of_lt (Nat.mod_le _ _) x.toBitVec.isLt)).symm
theorem pk_andE (x : Int32) {m : Int32} (k : Nat) (hm : m.toBitVec.toNat = 2 ^ k - 1) : ∃ j : Nat, j < 2 ^ k ∧ x &&& m = nI j := ⟨_, Nat.mod_lt _ (Nat.two_pow_pos k), pk_and x k hm⟩
end
section
/-- what a data set holds: how many pairs, their keys, their values -/
abbrev ln_C : Type := Nat × (Nat → Int32) × (Nat → Int32)
abbrev ln_D : Type := Option ln_C
abbrev ln_L : Type := List (Int32 × Int32)
abbrev ln_F : Type := Nat → Int32
/-- the place at which a pair is put in, looked for from the end -/
def ln_po (k v : Int32) (K V : Nat → Int32) : Nat → Nat
  | 0 => 0
  | j + 1 => if k < K j ∨ (k = K j ∧ v < V j) then ln_po k v K V j else j + 1
def ln_sh (q : Nat) (x : Int32) (K : Nat → Int32) : Nat → Int32 := fun i => if i < q then K i else if i = q then x else K (i - 1)
def ln_ap (D : ln_D) (p : Int32 × Int32) : ln_D := match D with
  | none => none
  | some (n, K, V) => if n < 48 then some (n + 1, ln_sh (ln_po p.1 p.2 K V n) p.1 K, ln_sh (ln_po p.1 p.2 K V n) p.2 V) else none
def ln_fo (D : ln_D) (l : ln_L) : ln_D := l.foldl ln_ap D
def ln_sq (g : Nat → ln_L) : Nat → Nat → ln_L
  | 0, _ => []
  | m + 1, i => g i ++ ln_sq g m (i + 1)
def ln_e0 : ln_D := some (0, (fun _ => 0), (fun _ => 0))
/-- block d is being made, and holds D so far -/
def ln_Bu (d : Nat) (D : ln_D) (kk vv sz bg : Nat → Int32) : Prop := match D with
  | none => bg d = 1 ∧ sz d = 48
  | some (n, K, V) => bg d = 0 ∧ n ≤ 48 ∧ sz d = nI n ∧ ∀ i, i < n → kk (48 * d + i) = K i ∧ vv (48 * d + i) = V i
/-- block d holds D -/
def ln_Ho (d : Nat) (D : ln_D) (kk vv sz bg : Nat → Int32) : Prop := match D with
  | none => bg d = 1
  | some (n, K, V) => bg d = 0 ∧ n ≤ 48 ∧ sz d = nI n ∧ ∀ i, i < n → kk (48 * d + i) = K i ∧ vv (48 * d + i) = V i
def ln_Tb (T : Nat → ln_D) (s : Nat) (D : ln_D) (kk vv sz bg : Nat → Int32) : Prop :=
  (∀ e, e < s → ln_Ho e (T e) kk vv sz bg) ∧ ln_Bu s D kk vv sz bg
theorem ln_Bu_Ho {d : Nat} {D : ln_D} {kk vv sz bg : Nat → Int32} (h : ln_Bu d D kk vv sz bg) : ln_Ho d D kk vv sz bg := by
  match D, h with
  | none, h => exact h.1
  | some (n, K, V), h => exact h
theorem ln_fo_app (D : ln_D) (a b : ln_L) : ln_fo D (a ++ b) = ln_fo (ln_fo D a) b := List.foldl_append
theorem ln_fo_1 (D : ln_D) (p : Int32 × Int32) : ln_fo D [p] = ln_ap D p := rfl
theorem ln_fo_0 (D : ln_D) : ln_fo D [] = D := rfl
/-- the walk over a block, of either side -/
theorem ln_walk {T : Nat → ln_D} {s : Nat} (W : Nat → Nat → (Nat → Int32) → (Nat → Int32) → (Nat → Int32) → (Nat → Int32) → Prop) (Q : (Nat → Int32) → (Nat → Int32) → (Nat → Int32) → (Nat → Int32) → Prop) (n : Nat) (g : Nat → ln_L)
    (hx : ∀ f kk vv sz bg D, ln_Tb T s D kk vv sz bg → Q kk vv sz bg → W (f + 1) n kk vv sz bg)
    (hs : ∀ f i kk vv sz bg D, i < n → ln_Tb T s D kk vv sz bg → (∀ kk' vv' sz' bg', ln_Tb T s (ln_fo D (g i)) kk' vv' sz' bg' → W f (i + 1) kk' vv' sz' bg') → W (f + 1) i kk vv sz bg) :
    ∀ m i D kk vv sz bg, i + m = n → ln_Tb T s D kk vv sz bg → (∀ kk' vv' sz' bg', ln_Tb T s (ln_fo D (ln_sq g m i)) kk' vv' sz' bg' → Q kk' vv' sz' bg') → W (m + 1) i kk vv sz bg := by
  intro m
  induction m with
  | zero =>
    intro i D kk vv sz bg hi H P
    have e : i = n := by omega
    subst e
    exact hx _ _ _ _ _ D H (P _ _ _ _ H)
  | succ m ih =>
    intro i D kk vv sz bg hi H P
    refine hs _ _ _ _ _ _ D (by omega) H fun kk' vv' sz' bg' H' => ?_
    refine ih (i + 1) _ kk' vv' sz' bg' (by omega) H' fun kk2 vv2 sz2 bg2 H2 => ?_
    refine P _ _ _ _ ?_
    show ln_Tb T s (ln_fo D (g i ++ ln_sq g m (i + 1))) kk2 vv2 sz2 bg2
    rw [ln_fo_app]
    exact H2
/-- while a pair is put in: the places from j on have been moved one up -/
def ln_In (s n j : Nat) (K V kk0 vv0 kk vv : Nat → Int32) : Prop :=
  (∀ i, i < j → kk (48 * s + i) = K i ∧ vv (48 * s + i) = V i) ∧ (∀ i, j < i → i ≤ n → kk (48 * s + i) = K (i - 1) ∧ vv (48 * s + i) = V (i - 1)) ∧ (∀ p, p < 48 * s → kk p = kk0 p ∧ vv p = vv0 p)
theorem ln_In_s {s n j : Nat} {K V kk0 vv0 kk vv : Nat → Int32} (h : ln_In s n (j + 1) K V kk0 vv0 kk vv) (hj : j + 1 ≤ n) :
    ln_In s n j K V kk0 vv0 (upd kk (48 * s + (j + 1)) (kk (48 * s + j))) (upd vv (48 * s + (j + 1)) (vv (48 * s + j))) := by
  refine ⟨fun i hi => ?_, fun i hi hi2 => ?_, fun p hp => ?_⟩
  · rw [pk_un (by omega), pk_un (by omega)]
    exact h.1 i (by omega)
  · by_cases e : i = j + 1
    · subst e
      rw [pk_us, pk_us]
      exact h.1 j (by omega)
    · rw [pk_un (by omega), pk_un (by omega)]
      exact h.2.1 i (by omega) hi2
  · rw [pk_un (by omega), pk_un (by omega)]
    exact h.2.2 p hp
theorem ln_po_le (k v : Int32) (K V : Nat → Int32) : ∀ n, ln_po k v K V n ≤ n := by
  intro n
  induction n with
  | zero => exact Nat.le_refl _
  | succ n ih =>
    unfold ln_po
    split
    · omega
    · exact Nat.le_refl _
theorem ln_Ho_fr {e s : Nat} {D : ln_D} {kk vv sz bg kk' vv' sz' bg' : Nat → Int32} (he : e < s) (h : ln_Ho e D kk vv sz bg)
    (hp : ∀ p, p < 48 * s → kk' p = kk p ∧ vv' p = vv p) (hz : sz' e = sz e) (hb : bg' e = bg e) : ln_Ho e D kk' vv' sz' bg' := by
  match D, h with
  | none, h => exact hb.trans h
  | some (n, K, V), h =>
    obtain ⟨h1, h2, h3, h4⟩ := h
    refine ⟨hb.trans h1, h2, hz.trans h3, fun i hi => ?_⟩
    have q := hp (48 * e + i) (by omega)
    rw [q.1, q.2]
    exact h4 i hi
theorem ln_In_e {T : Nat → ln_D} {s n q : Nat} {K V kk0 vv0 kk vv sz bg : Nat → Int32} {k v : Int32} (H : ln_Tb T s (some (n, K, V)) kk0 vv0 sz bg) (hn : n < 48)
    (h : ln_In s n q K V kk0 vv0 kk vv) (hq : ln_po k v K V n = q) :
    ln_Tb T s (ln_ap (some (n, K, V)) (k, v)) (upd kk (48 * s + q) k) (upd vv (48 * s + q) v) (upd sz s (sz s + 1)) bg := by
  have hle : q ≤ n := by rw [← hq]; exact ln_po_le k v K V n
  refine ⟨fun e he => ?_, ?_⟩
  · refine ln_Ho_fr he (H.1 e he) (fun p hp => ?_) (pk_un (by omega)) rfl
    rw [pk_un (by omega), pk_un (by omega)]
    exact h.2.2 p hp
  · obtain ⟨h1, h2, h3, h4⟩ := H.2
    show ln_Bu s (if n < 48 then some (n + 1, ln_sh (ln_po k v K V n) k K, ln_sh (ln_po k v K V n) v V) else none) _ _ _ _
    rw [if_pos hn, hq]
    refine ⟨h1, by omega, ?_, fun i hi => ?_⟩
    · rw [pk_us, h3, nI_1]
    · unfold ln_sh
      by_cases c1 : i < q
      · rw [if_pos c1, if_pos c1, pk_un (by omega), pk_un (by omega)]
        exact h.1 i c1
      · by_cases c2 : i = q
        · rw [if_neg c1, if_neg c1, if_pos c2, if_pos c2, c2, pk_us, pk_us]
          exact ⟨rfl, rfl⟩
        · rw [if_neg c1, if_neg c1, if_neg c2, if_neg c2, pk_un (by omega), pk_un (by omega)]
          exact h.2.1 i (by omega) (by omega)
theorem ln_In_0 {T : Nat → ln_D} {s n : Nat} {K V kk vv sz bg : Nat → Int32} (H : ln_Tb T s (some (n, K, V)) kk vv sz bg) : ln_In s n n K V kk vv kk vv :=
  ⟨H.2.2.2.2, fun i h1 h2 => absurd h1 (by omega), fun _ _ => ⟨rfl, rfl⟩⟩
/-- a pair more for a block that is big already -/
theorem ln_Tb_full {T : Nat → ln_D} {s : Nat} {D : ln_D} {kk vv sz bg : Nat → Int32} {p : Int32 × Int32} (H : ln_Tb T s D kk vv sz bg) (hf : ¬ sz s < 48) :
    ln_Tb T s (ln_ap D p) kk vv sz (upd bg s 1) := by
  refine ⟨fun e he => ln_Ho_fr he (H.1 e he) (fun _ _ => ⟨rfl, rfl⟩) rfl (pk_un (by omega)), ?_⟩
  match D, H with
  | none, H => exact ⟨pk_us, H.2.2⟩
  | some (n, K, V), H =>
    obtain ⟨h1, h2, h3, h4⟩ := H.2
    have hn : n = 48 := by
      rw [h3] at hf
      have : ¬ n < 48 := fun z => hf (nI_lt (b := 48) z (by decide))
      omega
    show ln_Bu s (if n < 48 then some (n + 1, ln_sh (ln_po p.1 p.2 K V n) p.1 K, ln_sh (ln_po p.1 p.2 K V n) p.2 V) else none) _ _ _ _
    rw [if_neg (by omega)]
    refine ⟨pk_us, ?_⟩
    rw [h3, hn]
    rfl
theorem ln_fp (s : Nat) : nI s * 48 = nI (48 * s) := by
  rw [show (48 : Int32) = nI 48 from rfl, pk_mul, Nat.mul_comm]
theorem ln_fq (s : Nat) : 48 * nI s = nI (48 * s) := by
  rw [show (48 : Int32) = nI 48 from rfl, pk_mul]
theorem ln_fr (s : Nat) : 24 * nI s = nI (24 * s) := by
  rw [show (24 : Int32) = nI 24 from rfl, pk_mul]
theorem ln_sz {T : Nat → ln_D} {s x n : Nat} {D : ln_D} {K V kk vv sz bg : Nat → Int32} (H : ln_Tb T s D kk vv sz bg) (hx : x < s) (hT : T x = some (n, K, V)) : bg x = 0 ∧ n ≤ 48 ∧ sz x = nI n := by
  have h := H.1 x hx
  rw [hT] at h
  exact ⟨h.1, h.2.1, h.2.2.1⟩
theorem ln_rd {T : Nat → ln_D} {s x n i : Nat} {D : ln_D} {K V kk vv sz bg : Nat → Int32} (hs : s ≤ 16) (H : ln_Tb T s D kk vv sz bg) (hx : x < s) (hT : T x = some (n, K, V)) (hi : i < n) :
    kk (nI (48 * x + i)).toNatClampNeg = K i ∧ vv (nI (48 * x + i)).toNatClampNeg = V i ∧ vp_in (nI (48 * x + i)) 768 := by
  have h := H.1 x hx
  rw [hT] at h
  obtain ⟨h1, h2, h3, h4⟩ := h
  rw [nI_clamp (by omega)]
  exact ⟨(h4 i hi).1, (h4 i hi).2, vp_in_nI (by omega) (by omega)⟩
end
section
theorem lx_nar0 : vp_nar .boolean 0 = 0 := by decide
theorem lx_nar1 : vp_nar .boolean 1 = 1 := by decide
theorem lx_isBefore {h s : Int32} {hk hv kk vv sz bg : Nat → Int32} {post : Int32 → Prop} {k v p : Int32} (hin : vp_in p 768)
    (P1 : (k < kk p.toNatClampNeg ∨ (k = kk p.toNatClampNeg ∧ v < vv p.toNatClampNeg)) → post 1)
    (P0 : ¬ (k < kk p.toNatClampNeg ∨ (k = kk p.toNatClampNeg ∧ v < vv p.toNatClampNeg)) → post 0) :
    wpX_isBefore post (h, s, hk, hv, kk, vv, sz, bg) k v p := by
  refine ⟨hin, br_c (fun c => P1 (Or.inl c)) fun c => ⟨hin, br_c (fun d => ⟨hin, br_c (fun e => P0 ?_) fun e => P1 (Or.inr ⟨d, ?_⟩)⟩) fun d => P0 ?_⟩⟩
  · rintro (z | ⟨_, z⟩)
    · exact c z
    · exact (Int32.not_lt.mpr e) z
  · exact Int32.not_le.mp e
  · rintro (z | ⟨z, _⟩)
    · exact c z
    · exact d z
section
variable {T : Nat → ln_D} {s n : Nat} {K V kk0 vv0 sz bg hk hv : Nat → Int32} {h k v : Int32} {post : SX → Prop}
theorem lx_add_100 (hs : s < 16) (H : ln_Tb T s (some (n, K, V)) kk0 vv0 sz bg) (hn : n < 48)
    (P : ∀ kk' vv' sz', ln_Tb T s (ln_ap (some (n, K, V)) (k, v)) kk' vv' sz' bg → post (h, nI s, hk, hv, kk', vv', sz', bg))
    {q : Nat} {kk vv : Nat → Int32} (hI : ln_In s n q K V kk0 vv0 kk vv) (hq : ln_po k v K V n = q) :
    wX_add_100 post k v (nI (48 * s + q)) h (nI s) hk hv kk vv sz bg := by
  have hle : q ≤ n := by rw [← hq]; exact ln_po_le k v K V n
  have i1 : vp_in (nI (48 * s + q)) 768 := vp_in_nI (by omega) (by omega)
  have i2 : vp_in (nI s) 16 := vp_in_nI (by omega) (by omega)
  unfold wX_add_100
  rw [nI_clamp (n := 48 * s + q) (by omega), nI_clamp (n := s) (by omega)]
  exact ⟨i1, nm_e ⟨i1, nm_e ⟨i2, i2, nm_e (P _ _ _ (ln_In_e H hn hI hq))⟩⟩⟩
theorem lx_add_43 (hs : s < 16) (H : ln_Tb T s (some (n, K, V)) kk0 vv0 sz bg) (hn : n < 48)
    (P : ∀ kk' vv' sz', ln_Tb T s (ln_ap (some (n, K, V)) (k, v)) kk' vv' sz' bg → post (h, nI s, hk, hv, kk', vv', sz', bg)) :
    ∀ (j : Nat) (kk vv : Nat → Int32), j ≤ n → ln_In s n j K V kk0 vv0 kk vv → ln_po k v K V n = ln_po k v K V j →
    wX_add_43 post k v (nI (48 * s)) h (nI s) (j + 1) (nI (48 * s + j)) hk hv kk vv sz bg := by
  intro j
  induction j with
  | zero =>
    intro kk vv hj hI hq
    refine br_t (nI_le (by omega) (by omega)) ?_
    exact lx_add_100 hs H hn P hI hq
  | succ j ih =>
    intro kk vv hj hI hq
    have e1 : nI (48 * s + (j + 1)) - 1 = nI (48 * s + j) := nI_pred (48 * s + j)
    have e2 : nI (48 * s + (j + 1)) + (-1) = nI (48 * s + j) := pk_m1 (48 * s + j)
    have i1 : vp_in (nI (48 * s + j)) 768 := vp_in_nI (by omega) (by omega)
    have i2 : vp_in (nI (48 * s + (j + 1))) 768 := vp_in_nI (by omega) (by omega)
    have r := hI.1 j (by omega)
    refine br_f (nI_ge (by omega) (by omega)) ?_
    rw [e1, e2]
    refine lx_isBefore i1 (fun c => ?_) (fun c => ?_)
    · rw [nI_clamp (n := 48 * s + j) (by omega), nI_clamp (n := 48 * s + (j + 1)) (by omega)]
      rw [nI_clamp (n := 48 * s + j) (by omega), r.1, r.2] at c
      refine br_f (by decide) ⟨i1, i2, nm_e ⟨i1, i2, nm_e (nm_e ?_)⟩⟩
      refine ih _ _ (by omega) (ln_In_s hI hj) ?_
      rw [hq]
      show (if k < K j ∨ (k = K j ∧ v < V j) then ln_po k v K V j else j + 1) = _
      rw [if_pos c]
    · rw [nI_clamp (n := 48 * s + j) (by omega), r.1, r.2] at c
      refine br_t rfl ?_
      refine lx_add_100 hs H hn P hI ?_
      rw [hq]
      show (if k < K j ∨ (k = K j ∧ v < V j) then ln_po k v K V j else j + 1) = _
      rw [if_neg c]
theorem lx_add {D : ln_D} {kk vv : Nat → Int32} {key val : Int32} (hs : s < 16) (H : ln_Tb T s D kk vv sz bg) (ek : key = k) (ev : val = v)
    (P : ∀ kk' vv' sz' bg', ln_Tb T s (ln_ap D (k, v)) kk' vv' sz' bg' → post (h, nI s, hk, hv, kk', vv', sz', bg')) :
    wpX_add post (h, nI s, hk, hv, kk, vv, sz, bg) key val := by
  subst ek ev
  have i2 : vp_in (nI s) 16 := vp_in_nI (by omega) (by omega)
  unfold wpX_add
  dsimp only
  rw [nI_clamp (n := s) (by omega)]
  refine ⟨i2, br_c (fun c => ?_) fun c => ⟨i2, nm_e (P _ _ _ _ ?_)⟩⟩
  · unfold wpX_firstPlace wpX_endPlace
    dsimp only
    rw [nI_clamp (n := s) (by omega), ln_fp]
    match D, H, P with
    | none, H, P =>
      rw [H.2.2] at c
      exact absurd c (by decide)
    | some (n, K, V), H, P =>
      obtain ⟨h1, h2, h3, h4⟩ := H.2
      rw [h3] at c ⊢
      have hn : n < 48 := (nI_ltI (b := 48) (by omega) (by decide)).mp c
      rw [nI_add]
      exact ⟨i2, n + 1, lx_add_43 hs H hn (fun kk' vv' sz' => P kk' vv' sz' bg) n kk vv (Nat.le_refl _) (ln_In_0 H) rfl⟩
  · rw [lx_nar1]
    exact ln_Tb_full H c
end
end
section
section
variable {T : Nat → ln_D} {d n : Nat} {K V kk0 vv0 sz bg hk hv ki px pa pb gn gk gv : Nat → Int32} {hh nn k v : Int32} {post : SY → Prop}
theorem ly_put_45 (hs : d < 16) (H : ln_Tb T d (some (n, K, V)) kk0 vv0 sz bg) (hn : n < 48)
    (P : ∀ kk' vv' sz', ln_Tb T d (ln_ap (some (n, K, V)) (k, v)) kk' vv' sz' bg → post (hh, nn, hk, hv, ki, px, pa, pb, gn, gk, gv, sz', bg, kk', vv')) :
    ∀ (m t j : Nat) (kk vv : Nat → Int32), t + m = 48 → j ≤ n → ln_In d n j K V kk0 vv0 kk vv → ln_po k v K V n = ln_po k v K V j → (j ≤ m ∨ ln_po k v K V j = j) →
    wY_put_45 post (nI d) k v hh nn (m + 1) (nI (48 * d + j)) (nI t) hk hv ki px pa pb gn gk gv sz bg kk vv := by
  intro m
  induction m with
  | zero =>
    intro t j kk vv ht hj hI hq hr
    have i1 : vp_in (nI (48 * d + j)) 768 := vp_in_nI (by omega) (by omega)
    have i2 : vp_in (nI d) 16 := vp_in_nI (by omega) (by omega)
    have hq2 : ln_po k v K V n = j := by
      rw [hq]
      rcases hr with z | z
      · have : j = 0 := by omega
        subst this
        rfl
      · exact z
    refine br_t (nI_le (a := 48) (by omega) (by omega)) ?_
    rw [nI_clamp (n := 48 * d + j) (by omega), nI_clamp (n := d) (by omega)]
    exact ⟨i1, nm_e ⟨i1, nm_e ⟨i2, i2, nm_e (P _ _ _ (ln_In_e H hn hI hq2))⟩⟩⟩
  | succ m ih =>
    intro t j kk vv ht hj hI hq hr
    refine br_f (nI_ge (b := 48) (by omega) (by omega)) ?_
    rw [ln_fq]
    match j, hj, hI, hq, hr with
    | 0, hj, hI, hq, hr =>
      refine br_t (nI_le (by omega) (by omega)) (nm_r (nI_1 t) ?_)
      exact ih (t + 1) 0 kk vv (by omega) hj hI hq (Or.inl (by omega))
    | j + 1, hj, hI, hq, hr =>
      have e1 : nI (48 * d + (j + 1)) - 1 = nI (48 * d + j) := nI_pred (48 * d + j)
      have e2 : nI (48 * d + (j + 1)) + (-1) = nI (48 * d + j) := pk_m1 (48 * d + j)
      have i1 : vp_in (nI (48 * d + j)) 768 := vp_in_nI (by omega) (by omega)
      have i2 : vp_in (nI (48 * d + (j + 1))) 768 := vp_in_nI (by omega) (by omega)
      have r := hI.1 j (by omega)
      have u : ln_po k v K V (j + 1) = if k < K j ∨ (k = K j ∧ v < V j) then ln_po k v K V j else j + 1 := rfl
      have S : (k < K j ∨ (k = K j ∧ v < V j)) → wY_put_100 post (wY_put_45 post (nI d) k v hh nn (m + 1)) (nI d) k v (nI (48 * d + (j + 1))) (nI t) hh nn hk hv ki px pa pb gn gk gv sz bg kk vv := by
        intro c
        unfold wY_put_100
        rw [e1, e2, nI_clamp (n := 48 * d + j) (by omega), nI_clamp (n := 48 * d + (j + 1)) (by omega)]
        rw [u, if_pos c] at hq hr
        have hl := ln_po_le k v K V j
        refine ⟨i1, i2, nm_e ⟨i1, i2, nm_e (nm_e (nm_r (nI_1 t) ?_))⟩⟩
        exact ih (t + 1) j _ _ (by omega) (by omega) (ln_In_s hI hj) hq (Or.inl (by omega))
      have N : ¬ (k < K j ∨ (k = K j ∧ v < V j)) → wY_put_45 post (nI d) k v hh nn (m + 1) (nI (48 * d + (j + 1))) (nI (t + 1)) hk hv ki px pa pb gn gk gv sz bg kk vv := by
        intro c
        refine ih (t + 1) (j + 1) kk vv (by omega) hj hI hq (Or.inr ?_)
        rw [u, if_neg c]
      refine br_f (nI_ge (by omega) (by omega)) ?_
      rw [e1, nI_clamp (n := 48 * d + j) (by omega), r.1, r.2]
      refine ⟨i1, br_c (fun c => S (Or.inl c)) fun c => ⟨i1, br_c (fun c2 => ⟨i1, br_c (fun c3 => nm_r (nI_1 t) (N ?_)) fun c3 => S (Or.inr ⟨c2.symm, Int32.not_le.mp c3⟩)⟩) fun c2 => nm_r (nI_1 t) (N ?_)⟩⟩
      · rintro (z | ⟨_, z⟩)
        · exact c z
        · exact (Int32.not_lt.mpr c3) z
      · rintro (z | ⟨z, _⟩)
        · exact c z
        · exact c2 z.symm
theorem ly_put {D : ln_D} {kk vv : Nat → Int32} {key val : Int32} (hs : d < 16) (H : ln_Tb T d D kk vv sz bg) (ek : key = k) (ev : val = v)
    (P : ∀ kk' vv' sz' bg', ln_Tb T d (ln_ap D (k, v)) kk' vv' sz' bg' → post (hh, nn, hk, hv, ki, px, pa, pb, gn, gk, gv, sz', bg', kk', vv')) :
    wpY_put post (hh, nn, hk, hv, ki, px, pa, pb, gn, gk, gv, sz, bg, kk, vv) (nI d) key val := by
  subst ek ev
  have i2 : vp_in (nI d) 16 := vp_in_nI (by omega) (by omega)
  unfold wpY_put
  dsimp only
  rw [nI_clamp (n := d) (by omega), lx_nar1]
  match D, H, P with
  | none, H, P =>
    refine ⟨i2, br_f ?_ (P _ _ _ _ H)⟩
    rw [H.2.1]
    decide
  | some (n, K, V), H, P =>
    obtain ⟨h1, h2, h3, h4⟩ := H.2
    refine ⟨i2, br_t h1 ⟨i2, br_c (fun c => ⟨i2, nm_e (P _ _ _ _ (ln_Tb_full H ?_))⟩) fun c => ⟨i2, ?_⟩⟩⟩
    · rw [c]
      decide
    · rw [h3] at c ⊢
      have hn : n < 48 := by
        have : n ≠ 48 := fun z => c (by rw [z]; rfl)
        omega
      rw [ln_fq, nI_add]
      refine nm_e ⟨49, ?_⟩
      exact ly_put_45 hs H hn (fun kk' vv' sz' => P kk' vv' sz' bg) 48 0 n kk vv (by omega) (Nat.le_refl _) (ln_In_0 H) rfl (Or.inl (by omega))
end
end
section
def ln_ct (p : Nat → Bool) : Nat → Nat → Nat
  | 0, _ => 0
  | m + 1, i => (if p i = true then 1 else 0) + ln_ct p m (i + 1)
def ln_sm (V : Nat → Int32) : Nat → Nat → Int32 → Int32
  | 0, _, a => a
  | m + 1, i, a => ln_sm V m (i + 1) (a + V i)
def ln_g1 (a b : Int32) (K V : Nat → Int32) (i : Nat) : ln_L := [(K i, V i * a + b)]
def ln_g2 (a : Int32) (K V : Nat → Int32) (i : Nat) : ln_L := if V i < a then [] else [(K i, V i)]
def ln_g3 (a b : Int32) (K V : Nat → Int32) (i : Nat) : ln_L := [((K i * a + b) &&& 15, V i)]
def ln_g4 (t : Nat) (K V : Nat → Int32) (i : Nat) : ln_L := ln_sq (fun _ => [(K i, V i)]) t 0
def ln_g7 (m : Nat) (K' V' K V : Nat → Int32) (i : Nat) : ln_L := ln_sq (fun j => if K i = K' j then [(K i, V i + V' j)] else []) m 0
def ln_g8 (K V : Nat → Int32) (i : Nat) : ln_L := if i = 0 ∨ ¬ K i = K (i - 1) ∨ ¬ V i = V (i - 1) then [(K i, V i)] else []
def ln_g9 (m : Nat) (K' K V : Nat → Int32) (i : Nat) : ln_L := if ln_ct (fun j => decide (K' j = K i)) m 0 = 0 then [(K i, V i)] else []
def ln_bh (V : Nat → Int32) (n i : Nat) : Nat := ln_ct (fun j => decide (V i < V j ∨ (V j = V i ∧ i < j))) n 0
def ln_ga (a : Int32) (n : Nat) (K V : Nat → Int32) (i : Nat) : ln_L := if a ≤ nI (ln_bh V n i) then [] else [(K i, V i)]
def ln_gb (K V : Nat → Int32) (i : Nat) : ln_L := [(V i &&& 15, K i)]
def ln_fk (K : Nat → Int32) : Nat → Nat
  | 0 => 0
  | i + 1 => if K (i + 1) = K i then ln_fk K i else i + 1
def ln_fv (how : Int32) (V : Nat → Int32) (f e : Nat) : Int32 := if how = 1 then V f else if how = 2 then V (e - 1) else if how = 3 then nI (e - f) else ln_sm V (e - f) f 0
def ln_g6 (how : Int32) (n : Nat) (K V : Nat → Int32) (i : Nat) : ln_L := if i + 1 = n ∨ ¬ K (i + 1) = K i then [(K i, ln_fv how V (ln_fk K i) (i + 1))] else []
/-- what a data set is, by its recipe and the ones ahead of it -/
def ln_rs (T : Nat → ln_D) (o x a b : Int32) (gl : ln_L) : ln_D :=
  if o = 0 then ln_fo ln_e0 gl else match T x.toNatClampNeg with
  | none => none
  | some (n, K, V) =>
    if o = 5 ∨ o = 7 ∨ o = 9 then match T a.toNatClampNeg with
      | none => none
      | some (m, K', V') =>
        if o = 5 then ln_fo (ln_fo ln_e0 (ln_sq (ln_g4 1 K V) n 0)) (ln_sq (ln_g4 1 K' V') m 0)
        else if o = 7 then ln_fo ln_e0 (ln_sq (ln_g7 m K' V' K V) n 0)
        else ln_fo ln_e0 (ln_sq (ln_g9 m K' K V) n 0)
    else if o = 1 then ln_fo ln_e0 (ln_sq (ln_g1 a b K V) n 0)
    else if o = 2 then ln_fo ln_e0 (ln_sq (ln_g2 a K V) n 0)
    else if o = 3 then ln_fo ln_e0 (ln_sq (ln_g3 a b K V) n 0)
    else if o = 4 then ln_fo ln_e0 (ln_sq (ln_g4 a.toNatClampNeg K V) n 0)
    else if o = 6 then ln_fo ln_e0 (ln_sq (ln_g6 a n K V) n 0)
    else if o = 8 then ln_fo ln_e0 (ln_sq (ln_g8 K V) n 0)
    else if o = 10 then ln_fo ln_e0 (ln_sq (ln_ga a n K V) n 0)
    else ln_fo ln_e0 (ln_sq (ln_gb K V) n 0)
theorem ln_ct_le (p : Nat → Bool) : ∀ m i, ln_ct p m i ≤ m := by
  intro m
  induction m with
  | zero => intro i; exact Nat.le_refl _
  | succ m ih =>
    intro i
    have := ih (i + 1)
    unfold ln_ct
    split <;> omega
theorem ln_ct_cg {p q : Nat → Bool} : ∀ m i, (∀ j, i ≤ j → j < i + m → p j = q j) → ln_ct p m i = ln_ct q m i := by
  intro m
  induction m with
  | zero => intro i _; rfl
  | succ m ih =>
    intro i h
    unfold ln_ct
    rw [h i (Nat.le_refl _) (by omega), ih (i + 1) (fun j h1 h2 => h j (by omega) (by omega))]
theorem ln_sq_cg {g g' : Nat → ln_L} : ∀ m i, (∀ j, i ≤ j → j < i + m → g j = g' j) → ln_sq g m i = ln_sq g' m i := by
  intro m
  induction m with
  | zero => intro i _; rfl
  | succ m ih =>
    intro i h
    unfold ln_sq
    rw [h i (Nat.le_refl _) (by omega), ih (i + 1) (fun j h1 h2 => h j (by omega) (by omega))]
theorem ln_sq_mem {g : Nat → ln_L} {p : Int32 × Int32} : ∀ m i, p ∈ ln_sq g m i → ∃ j, i ≤ j ∧ j < i + m ∧ p ∈ g j := by
  intro m
  induction m with
  | zero => intro i h; exact absurd h (by unfold ln_sq; exact List.not_mem_nil)
  | succ m ih =>
    intro i h
    unfold ln_sq at h
    rcases List.mem_append.mp h with h | h
    · exact ⟨i, Nat.le_refl _, by omega, h⟩
    · obtain ⟨j, h1, h2, h3⟩ := ih (i + 1) h
      exact ⟨j, by omega, by omega, h3⟩
end
section
theorem lx_first {x : Nat} {post : Int32 → Prop} (P : post (nI (48 * x))) : wpX_firstPlace post (nI x) := by
  unfold wpX_firstPlace
  rw [ln_fp]
  exact P
section
variable {T : Nat → ln_D} {s x n : Nat} {D : ln_D} {K V kk vv sz bg hk hv : Nat → Int32} {h : Int32}
theorem lx_end {post : Int32 → Prop} (hs : s < 16) (H : ln_Tb T s D kk vv sz bg) (hx : x < s) (hT : T x = some (n, K, V)) (P : post (nI (48 * x + n))) :
    wpX_endPlace post (h, nI s, hk, hv, kk, vv, sz, bg) (nI x) := by
  obtain ⟨z1, z2, z3⟩ := ln_sz H hx hT
  unfold wpX_endPlace
  dsimp only
  rw [nI_clamp (n := x) (by omega), ln_fp, z3, nI_add]
  exact ⟨vp_in_nI (by omega) (by omega), P⟩
variable {post : SX → Prop}
theorem lx_addScaled {a b : Int32} (hs : s < 16) (H : ln_Tb T s D kk vv sz bg) (hx : x < s) (hT : T x = some (n, K, V))
    (P : ∀ kk' vv' sz' bg', ln_Tb T s (ln_fo D (ln_sq (ln_g1 a b K V) n 0)) kk' vv' sz' bg' → post (h, nI s, hk, hv, kk', vv', sz', bg')) :
    wpX_addScaled post (h, nI s, hk, hv, kk, vv, sz, bg) (nI x) a b := by
  have hn := (ln_sz H hx hT).2.1
  unfold wpX_addScaled
  dsimp only
  refine lx_first (lx_end hs H hx hT ⟨n + 1, ?_⟩)
  refine ln_walk (fun f i kk vv sz bg => wX_addScaled_17 post a b (nI (48 * x + n)) f (nI (48 * x + i)) h (nI s) hk hv kk vv sz bg) (fun kk vv sz bg => post (h, nI s, hk, hv, kk, vv, sz, bg)) n (ln_g1 a b K V)
    (fun f kk vv sz bg D H q => br_t (nI_le (Nat.le_refl _) (by omega)) q) (fun f i kk vv sz bg D hi H ih => ?_) n 0 D kk vv sz bg (by omega) H P
  obtain ⟨r1, r2, r3⟩ := ln_rd (by omega) H hx hT hi
  exact br_f (nI_ge (by omega) (by omega)) ⟨r3, r3, lx_add hs H r1 (by rw [r2]) fun kk' vv' sz' bg' H' => nm_r (nI_1 _) (ih kk' vv' sz' bg' H')⟩
theorem lx_addRekeyed {a b : Int32} (hs : s < 16) (H : ln_Tb T s D kk vv sz bg) (hx : x < s) (hT : T x = some (n, K, V))
    (P : ∀ kk' vv' sz' bg', ln_Tb T s (ln_fo D (ln_sq (ln_g3 a b K V) n 0)) kk' vv' sz' bg' → post (h, nI s, hk, hv, kk', vv', sz', bg')) :
    wpX_addRekeyed post (h, nI s, hk, hv, kk, vv, sz, bg) (nI x) a b := by
  have hn := (ln_sz H hx hT).2.1
  unfold wpX_addRekeyed
  dsimp only
  refine lx_first (lx_end hs H hx hT ⟨n + 1, ?_⟩)
  refine ln_walk (fun f i kk vv sz bg => wX_addRekeyed_17 post a b (nI (48 * x + n)) f (nI (48 * x + i)) h (nI s) hk hv kk vv sz bg) (fun kk vv sz bg => post (h, nI s, hk, hv, kk, vv, sz, bg)) n (ln_g3 a b K V)
    (fun f kk vv sz bg D H q => br_t (nI_le (Nat.le_refl _) (by omega)) q) (fun f i kk vv sz bg D hi H ih => ?_) n 0 D kk vv sz bg (by omega) H P
  obtain ⟨r1, r2, r3⟩ := ln_rd (by omega) H hx hT hi
  exact br_f (nI_ge (by omega) (by omega)) ⟨r3, r3, lx_add hs H (by rw [r1]) r2 fun kk' vv' sz' bg' H' => nm_r (nI_1 _) (ih kk' vv' sz' bg' H')⟩
theorem lx_addSwapped (hs : s < 16) (H : ln_Tb T s D kk vv sz bg) (hx : x < s) (hT : T x = some (n, K, V))
    (P : ∀ kk' vv' sz' bg', ln_Tb T s (ln_fo D (ln_sq (ln_gb K V) n 0)) kk' vv' sz' bg' → post (h, nI s, hk, hv, kk', vv', sz', bg')) :
    wpX_addSwapped post (h, nI s, hk, hv, kk, vv, sz, bg) (nI x) := by
  have hn := (ln_sz H hx hT).2.1
  unfold wpX_addSwapped
  dsimp only
  refine lx_first (lx_end hs H hx hT ⟨n + 1, ?_⟩)
  refine ln_walk (fun f i kk vv sz bg => wX_addSwapped_14 post (nI (48 * x + n)) f (nI (48 * x + i)) h (nI s) hk hv kk vv sz bg) (fun kk vv sz bg => post (h, nI s, hk, hv, kk, vv, sz, bg)) n (ln_gb K V)
    (fun f kk vv sz bg D H q => br_t (nI_le (Nat.le_refl _) (by omega)) q) (fun f i kk vv sz bg D hi H ih => ?_) n 0 D kk vv sz bg (by omega) H P
  obtain ⟨r1, r2, r3⟩ := ln_rd (by omega) H hx hT hi
  exact br_f (nI_ge (by omega) (by omega)) ⟨r3, r3, lx_add hs H (by rw [r2]) r1 fun kk' vv' sz' bg' H' => nm_r (nI_1 _) (ih kk' vv' sz' bg' H')⟩
theorem lx_addAtLeast {a : Int32} (hs : s < 16) (H : ln_Tb T s D kk vv sz bg) (hx : x < s) (hT : T x = some (n, K, V))
    (P : ∀ kk' vv' sz' bg', ln_Tb T s (ln_fo D (ln_sq (ln_g2 a K V) n 0)) kk' vv' sz' bg' → post (h, nI s, hk, hv, kk', vv', sz', bg')) :
    wpX_addAtLeast post (h, nI s, hk, hv, kk, vv, sz, bg) (nI x) a := by
  have hn := (ln_sz H hx hT).2.1
  unfold wpX_addAtLeast
  dsimp only
  refine lx_first (lx_end hs H hx hT ⟨n + 1, ?_⟩)
  refine ln_walk (fun f i kk vv sz bg => wX_addAtLeast_15 post a (nI (48 * x + n)) f (nI (48 * x + i)) h (nI s) hk hv kk vv sz bg) (fun kk vv sz bg => post (h, nI s, hk, hv, kk, vv, sz, bg)) n (ln_g2 a K V)
    (fun f kk vv sz bg D H q => br_t (nI_le (Nat.le_refl _) (by omega)) q) (fun f i kk vv sz bg D hi H ih => ?_) n 0 D kk vv sz bg (by omega) H P
  obtain ⟨r1, r2, r3⟩ := ln_rd (by omega) H hx hT hi
  refine br_f (nI_ge (by omega) (by omega)) ⟨r3, ?_⟩
  rw [r2]
  unfold ln_g2 at ih
  refine br_c (fun c => nm_r (nI_1 _) (ih _ _ _ _ ?_)) fun c => ⟨r3, r3, lx_add hs H r1 rfl fun kk' vv' sz' bg' H' => nm_r (nI_1 _) (ih kk' vv' sz' bg' ?_)⟩
  · rw [if_pos c]
    exact H
  · rw [if_neg c]
    exact H'
theorem lx_addRepeated {t : Nat} (ht : t < 2 ^ 31) (hs : s < 16) (H : ln_Tb T s D kk vv sz bg) (hx : x < s) (hT : T x = some (n, K, V))
    (P : ∀ kk' vv' sz' bg', ln_Tb T s (ln_fo D (ln_sq (ln_g4 t K V) n 0)) kk' vv' sz' bg' → post (h, nI s, hk, hv, kk', vv', sz', bg')) :
    wpX_addRepeated post (h, nI s, hk, hv, kk, vv, sz, bg) (nI x) (nI t) := by
  have hn := (ln_sz H hx hT).2.1
  unfold wpX_addRepeated
  dsimp only
  refine lx_first (lx_end hs H hx hT ⟨n + 1, ?_⟩)
  refine ln_walk (fun f i kk vv sz bg => wX_addRepeated_15 post (nI t) (nI (48 * x + n)) f (nI (48 * x + i)) h (nI s) hk hv kk vv sz bg) (fun kk vv sz bg => post (h, nI s, hk, hv, kk, vv, sz, bg)) n (ln_g4 t K V)
    (fun f kk vv sz bg D H q => br_t (nI_le (Nat.le_refl _) (by omega)) q) (fun f i kk vv sz bg D hi H ih => ?_) n 0 D kk vv sz bg (by omega) H P
  refine br_f (nI_ge (by omega) (by omega)) ⟨t + 1, ?_⟩
  refine ln_walk (fun g j kk vv sz bg => wX_addRepeated_25 post (wX_addRepeated_15 post (nI t) (nI (48 * x + n)) f) (nI t) (nI (48 * x + n)) (nI (48 * x + i)) g (nI j) h (nI s) hk hv kk vv sz bg)
    (fun kk vv sz bg => wX_addRepeated_15 post (nI t) (nI (48 * x + n)) f (nI (48 * x + (i + 1))) h (nI s) hk hv kk vv sz bg) t (fun _ => [(K i, V i)])
    (fun g kk vv sz bg D H q => br_t (nI_le (Nat.le_refl _) ht) (nm_r (nI_1 _) q)) (fun g j kk vv sz bg D hj H ih2 => ?_) t 0 D kk vv sz bg (by omega) H ih
  obtain ⟨r1, r2, r3⟩ := ln_rd (by omega) H hx hT hi
  exact br_f (nI_ge (by omega) (by omega)) ⟨r3, r3, lx_add hs H r1 r2 fun kk' vv' sz' bg' H' => nm_r (nI_1 _) (ih2 kk' vv' sz' bg' H')⟩
theorem lx_addJoined {y m : Nat} {K' V' : Nat → Int32} (hs : s < 16) (H : ln_Tb T s D kk vv sz bg) (hx : x < s) (hT : T x = some (n, K, V)) (hy : y < s) (hU : T y = some (m, K', V'))
    (P : ∀ kk' vv' sz' bg', ln_Tb T s (ln_fo D (ln_sq (ln_g7 m K' V' K V) n 0)) kk' vv' sz' bg' → post (h, nI s, hk, hv, kk', vv', sz', bg')) :
    wpX_addJoined post (h, nI s, hk, hv, kk, vv, sz, bg) (nI x) (nI y) := by
  have hn := (ln_sz H hx hT).2.1
  have hm := (ln_sz H hy hU).2.1
  unfold wpX_addJoined
  dsimp only
  refine lx_first (lx_end hs H hx hT (lx_first (lx_end hs H hy hU ⟨n + 1, ?_⟩)))
  refine ln_walk (fun f i kk vv sz bg => wX_addJoined_28 post (nI (48 * x + n)) (nI (48 * y)) (nI (48 * y + m)) f (nI (48 * x + i)) h (nI s) hk hv kk vv sz bg) (fun kk vv sz bg => post (h, nI s, hk, hv, kk, vv, sz, bg)) n (ln_g7 m K' V' K V)
    (fun f kk vv sz bg D H q => br_t (nI_le (Nat.le_refl _) (by omega)) q) (fun f i kk vv sz bg D hi H ih => ?_) n 0 D kk vv sz bg (by omega) H P
  refine br_f (nI_ge (by omega) (by omega)) ⟨m + 1, ?_⟩
  refine ln_walk (fun g j kk vv sz bg => wX_addJoined_39 post (wX_addJoined_28 post (nI (48 * x + n)) (nI (48 * y)) (nI (48 * y + m)) f) (nI (48 * x + n)) (nI (48 * y)) (nI (48 * y + m)) (nI (48 * x + i)) g (nI (48 * y + j)) h (nI s) hk hv kk vv sz bg)
    (fun kk vv sz bg => wX_addJoined_28 post (nI (48 * x + n)) (nI (48 * y)) (nI (48 * y + m)) f (nI (48 * x + (i + 1))) h (nI s) hk hv kk vv sz bg) m (fun j => if K i = K' j then [(K i, V i + V' j)] else [])
    (fun g kk vv sz bg D H q => br_t (nI_le (Nat.le_refl _) (by omega)) (nm_r (nI_1 _) q)) (fun g j kk vv sz bg D hj H ih2 => ?_) m 0 D kk vv sz bg (by omega) H ih
  obtain ⟨r1, r2, r3⟩ := ln_rd (by omega) H hx hT hi
  obtain ⟨q1, q2, q3⟩ := ln_rd (by omega) H hy hU hj
  refine br_f (nI_ge (by omega) (by omega)) ⟨r3, q3, ?_⟩
  rw [r1, r2, q1, q2]
  refine br_c (fun c => ⟨r3, r3, q3, lx_add hs H rfl rfl fun kk' vv' sz' bg' H' => nm_r (nI_1 _) (ih2 kk' vv' sz' bg' ?_)⟩) fun c => nm_r (nI_1 _) (ih2 _ _ _ _ ?_)
  · rw [if_pos c]
    exact H'
  · rw [if_neg c]
    exact H
theorem lx_addDistinct (hs : s < 16) (H : ln_Tb T s D kk vv sz bg) (hx : x < s) (hT : T x = some (n, K, V))
    (P : ∀ kk' vv' sz' bg', ln_Tb T s (ln_fo D (ln_sq (ln_g8 K V) n 0)) kk' vv' sz' bg' → post (h, nI s, hk, hv, kk', vv', sz', bg')) :
    wpX_addDistinct post (h, nI s, hk, hv, kk, vv, sz, bg) (nI x) := by
  have hn := (ln_sz H hx hT).2.1
  unfold wpX_addDistinct
  dsimp only
  refine lx_first (lx_end hs H hx hT ⟨n + 1, ?_⟩)
  refine ln_walk (fun f i kk vv sz bg => wX_addDistinct_14 post (nI (48 * x)) (nI (48 * x + n)) f (nI (48 * x + i)) h (nI s) hk hv kk vv sz bg) (fun kk vv sz bg => post (h, nI s, hk, hv, kk, vv, sz, bg)) n (ln_g8 K V)
    (fun f kk vv sz bg D H q => br_t (nI_le (Nat.le_refl _) (by omega)) q) (fun f i kk vv sz bg D hi H ih => ?_) n 0 D kk vv sz bg (by omega) H P
  obtain ⟨r1, r2, r3⟩ := ln_rd (by omega) H hx hT hi
  have A : (i = 0 ∨ ¬ K i = K (i - 1) ∨ ¬ V i = V (i - 1)) → wX_addDistinct_64 post (wX_addDistinct_14 post (nI (48 * x)) (nI (48 * x + n)) f) (nI (48 * x)) (nI (48 * x + n)) (nI (48 * x + i)) h (nI s) hk hv kk vv sz bg := by
    intro c
    unfold ln_g8 at ih
    rw [if_pos c] at ih
    exact ⟨r3, r3, lx_add hs H r1 r2 fun kk' vv' sz' bg' H' => nm_r (nI_1 _) (ih kk' vv' sz' bg' H')⟩
  have B : ¬ (i = 0 ∨ ¬ K i = K (i - 1) ∨ ¬ V i = V (i - 1)) → wX_addDistinct_14 post (nI (48 * x)) (nI (48 * x + n)) f (nI (48 * x + (i + 1))) h (nI s) hk hv kk vv sz bg := by
    intro c
    unfold ln_g8 at ih
    rw [if_neg c] at ih
    exact ih _ _ _ _ H
  refine br_f (nI_ge (by omega) (by omega)) ?_
  match i, hi, r1, r2, r3, A, B with
  | 0, hi, r1, r2, r3, A, B => exact br_t rfl (A (Or.inl rfl))
  | i + 1, hi, r1, r2, r3, A, B =>
    obtain ⟨q1, q2, q3⟩ := ln_rd (by omega) H hx hT (show i < n by omega)
    have e1 : nI (48 * x + (i + 1)) - 1 = nI (48 * x + i) := nI_pred (48 * x + i)
    have ne : ¬ nI (48 * x + (i + 1)) = nI (48 * x) := fun z => absurd ((nI_eq (by omega) (by omega)).mp z) (by omega)
    refine br_f ne ?_
    rw [e1, r1, r2, q1, q2]
    refine ⟨r3, q3, br_c (fun c => ⟨r3, q3, br_c (fun c2 => nm_r (nI_1 _) (B ?_)) fun c2 => A (Or.inr (Or.inr c2))⟩) fun c => A (Or.inr (Or.inl c))⟩
    rintro (z | z | z)
    · omega
    · exact z c
    · exact z c2
end
end
section
section
variable {T : Nat → ln_D} {s x n : Nat} {D : ln_D} {K V kk vv sz bg hk hv : Nat → Int32} {h : Int32}
theorem lx_hasKey_l {post : Int32 → Prop} {c : Int32} (hs : s < 16) (H : ln_Tb T s D kk vv sz bg) (hx : x < s) (hT : T x = some (n, K, V)) :
    ∀ l j, j + l = n → (ln_ct (fun j => decide (K j = c)) l j = 0 → post 0) → (¬ ln_ct (fun j => decide (K j = c)) l j = 0 → post 1) →
    wX_hasKey_15 post c (nI (48 * x + n)) h (nI s) hk hv kk vv sz bg (l + 1) (nI (48 * x + j)) := by
  have hn := (ln_sz H hx hT).2.1
  intro l
  induction l with
  | zero =>
    intro j hj P0 P1
    exact br_t (nI_le (by omega) (by omega)) (P0 rfl)
  | succ l ih =>
    intro j hj P0 P1
    obtain ⟨r1, r2, r3⟩ := ln_rd (by omega) H hx hT (show j < n by omega)
    have u : ln_ct (fun j => decide (K j = c)) (l + 1) j = (if decide (K j = c) = true then 1 else 0) + ln_ct (fun j => decide (K j = c)) l (j + 1) := rfl
    refine br_f (nI_ge (by omega) (by omega)) ⟨r3, ?_⟩
    rw [r1]
    refine br_c (fun e => P1 ?_) fun e => nm_r (nI_1 _) (ih (j + 1) (by omega) (fun z => P0 ?_) fun z => P1 ?_)
    · rw [u, if_pos (decide_eq_true e)]
      omega
    · rw [u, if_neg (by simpa using e)]
      omega
    · rw [u, if_neg (by simpa using e)]
      omega
theorem lx_hasKey {post : Int32 → Prop} {c key : Int32} (hs : s < 16) (H : ln_Tb T s D kk vv sz bg) (hx : x < s) (hT : T x = some (n, K, V)) (ek : key = c)
    (P0 : ln_ct (fun j => decide (K j = c)) n 0 = 0 → post 0) (P1 : ¬ ln_ct (fun j => decide (K j = c)) n 0 = 0 → post 1) :
    wpX_hasKey post (h, nI s, hk, hv, kk, vv, sz, bg) (nI x) key := by
  subst ek
  unfold wpX_hasKey
  dsimp only
  exact lx_first (lx_end hs H hx hT ⟨n + 1, lx_hasKey_l hs H hx hT n 0 (by omega) P0 P1⟩)
theorem lx_later_l {post : Int32 → Prop} {i : Nat} (hs : s < 16) (H : ln_Tb T s D kk vv sz bg) (hx : x < s) (hT : T x = some (n, K, V)) (hi : i < n) :
    ∀ l j c, j + l = n → post (nI (c + ln_ct (fun j => decide (V i < V j ∨ (V j = V i ∧ i < j))) l j)) →
    wX_laterByValue_6 post (nI (48 * x + i)) (nI (48 * x + n)) h (nI s) hk hv kk vv sz bg (l + 1) (nI c) (nI (48 * x + j)) := by
  have hn := (ln_sz H hx hT).2.1
  intro l
  induction l with
  | zero =>
    intro j c hj P
    exact br_t (nI_le (by omega) (by omega)) P
  | succ l ih =>
    intro j c hj P
    obtain ⟨r1, r2, r3⟩ := ln_rd (by omega) H hx hT (show j < n by omega)
    obtain ⟨q1, q2, q3⟩ := ln_rd (by omega) H hx hT hi
    have u : ln_ct (fun j => decide (V i < V j ∨ (V j = V i ∧ i < j))) (l + 1) j = (if decide (V i < V j ∨ (V j = V i ∧ i < j)) = true then 1 else 0) + ln_ct (fun j => decide (V i < V j ∨ (V j = V i ∧ i < j))) l (j + 1) := rfl
    rw [u] at P
    have A : (V i < V j ∨ (V j = V i ∧ i < j)) → post (nI (c + 1 + ln_ct (fun j => decide (V i < V j ∨ (V j = V i ∧ i < j))) l (j + 1))) := by
      intro z
      rw [if_pos (decide_eq_true z), ← Nat.add_assoc] at P
      exact P
    have B : ¬ (V i < V j ∨ (V j = V i ∧ i < j)) → post (nI (c + ln_ct (fun j => decide (V i < V j ∨ (V j = V i ∧ i < j))) l (j + 1))) := by
      intro z
      rw [if_neg (fun y => z (of_decide_eq_true y)), Nat.zero_add] at P
      exact P
    refine br_f (nI_ge (by omega) (by omega)) ⟨r3, q3, ?_⟩
    rw [r2, q2]
    refine br_c (fun e => nm_r (nI_1 c) (nm_r (nI_1 _) (ih (j + 1) (c + 1) (by omega) (A (Or.inl e))))) fun e => ⟨r3, q3, br_c (fun e2 => ?_) fun e2 => nm_r (nI_1 _) (ih (j + 1) c (by omega) (B ?_))⟩
    · by_cases hh : i < j
      · exact br_f (nI_ge (by omega) (by omega)) (nm_r (nI_1 c) (nm_r (nI_1 _) (ih (j + 1) (c + 1) (by omega) (A (Or.inr ⟨e2, hh⟩)))))
      · refine br_t (nI_le (by omega) (by omega)) (nm_r (nI_1 _) (ih (j + 1) c (by omega) (B ?_)))
        rintro (z | ⟨_, z⟩)
        · exact e z
        · exact hh z
    · rintro (z | ⟨z, _⟩)
      · exact e z
      · exact e2 z
theorem lx_later {post : Int32 → Prop} {i : Nat} (hs : s < 16) (H : ln_Tb T s D kk vv sz bg) (hx : x < s) (hT : T x = some (n, K, V)) (hi : i < n) (P : post (nI (ln_bh V n i))) :
    wpX_laterByValue post (h, nI s, hk, hv, kk, vv, sz, bg) (nI (48 * x + i)) (nI (48 * x)) (nI (48 * x + n)) :=
  ⟨n + 1, lx_later_l hs H hx hT hi n 0 0 (by omega) (by rw [Nat.zero_add]; exact P)⟩
theorem lx_sum_l {post : Int32 → Prop} {e : Nat} (hs : s < 16) (H : ln_Tb T s D kk vv sz bg) (hx : x < s) (hT : T x = some (n, K, V)) (he : e ≤ n) :
    ∀ l j c, j + l = e → post (ln_sm V l j c) → wX_sumOfPlaces_5 post (nI (48 * x + e)) h (nI s) hk hv kk vv sz bg (l + 1) c (nI (48 * x + j)) := by
  have hn := (ln_sz H hx hT).2.1
  intro l
  induction l with
  | zero =>
    intro j c hj P
    exact br_t (nI_le (by omega) (by omega)) P
  | succ l ih =>
    intro j c hj P
    obtain ⟨r1, r2, r3⟩ := ln_rd (by omega) H hx hT (show j < n by omega)
    refine br_f (nI_ge (by omega) (by omega)) ⟨r3, ?_⟩
    rw [r2]
    exact nm_e (nm_r (nI_1 _) (ih (j + 1) _ (by omega) P))
theorem lx_sum {post : Int32 → Prop} {f e : Nat} (hs : s < 16) (H : ln_Tb T s D kk vv sz bg) (hx : x < s) (hT : T x = some (n, K, V)) (hf : f ≤ e) (he : e ≤ n) (P : post (ln_sm V (e - f) f 0)) :
    wpX_sumOfPlaces post (h, nI s, hk, hv, kk, vv, sz, bg) (nI (48 * x + f)) (nI (48 * x + e)) :=
  ⟨e - f + 1, lx_sum_l hs H hx hT he (e - f) f 0 (by omega) P⟩
theorem lx_folded {post : Int32 → Prop} {how : Int32} {f e : Nat} (hs : s < 16) (H : ln_Tb T s D kk vv sz bg) (hx : x < s) (hT : T x = some (n, K, V)) (hf : f ≤ e) (he : e + 1 ≤ n) (P : post (ln_fv how V f (e + 1))) :
    wpX_foldedPlaces post (h, nI s, hk, hv, kk, vv, sz, bg) (nI (48 * x + f)) (nI (48 * x + (e + 1))) how := by
  have hn := (ln_sz H hx hT).2.1
  obtain ⟨r1, r2, r3⟩ := ln_rd (by omega) H hx hT (show f < n by omega)
  obtain ⟨q1, q2, q3⟩ := ln_rd (by omega) H hx hT (show e < n by omega)
  have e1 : nI (48 * x + (e + 1)) - 1 = nI (48 * x + e) := nI_pred (48 * x + e)
  have e2 : nI (48 * x + (e + 1)) - nI (48 * x + f) = nI (e + 1 - f) := by
    rw [pk_sub (by omega)]
    exact congrArg nI (by omega)
  unfold ln_fv at P
  have S : ¬ how = 1 → ¬ how = 2 → ¬ how = 3 → wpX_sumOfPlaces (fun r => post r) (h, nI s, hk, hv, kk, vv, sz, bg) (nI (48 * x + f)) (nI (48 * x + (e + 1))) := by
    intro a1 a2 a3
    rw [if_neg a1, if_neg a2, if_neg a3] at P
    exact lx_sum hs H hx hT (by omega) he P
  unfold wpX_foldedPlaces
  dsimp only
  rw [e1, e2, r2, q2]
  refine br_c (fun c => S ?_ ?_ ?_) fun c => br_c (fun c2 => S ?_ ?_ ?_) fun c2 => br_c (fun c3 => ⟨r3, ?_⟩) fun c3 => br_c (fun c4 => ⟨q3, ?_⟩) fun c4 => br_c (fun c5 => ?_) fun _ => trivial
  · rintro rfl; exact absurd c (by decide)
  · rintro rfl; exact absurd c (by decide)
  · rintro rfl; exact absurd c (by decide)
  · rintro rfl; exact absurd c2 (by decide)
  · rintro rfl; exact absurd c2 (by decide)
  · rintro rfl; exact absurd c2 (by decide)
  · rw [if_pos c3] at P
    exact P
  · rw [if_neg c3, if_pos c4] at P
    exact P
  · rw [if_neg c3, if_neg c4, if_pos c5] at P
    exact P
variable {post : SX → Prop}
theorem lx_addWithout {y m : Nat} {K' V' : Nat → Int32} (hs : s < 16) (H : ln_Tb T s D kk vv sz bg) (hx : x < s) (hT : T x = some (n, K, V)) (hy : y < s) (hU : T y = some (m, K', V'))
    (P : ∀ kk' vv' sz' bg', ln_Tb T s (ln_fo D (ln_sq (ln_g9 m K' K V) n 0)) kk' vv' sz' bg' → post (h, nI s, hk, hv, kk', vv', sz', bg')) :
    wpX_addWithout post (h, nI s, hk, hv, kk, vv, sz, bg) (nI x) (nI y) := by
  have hn := (ln_sz H hx hT).2.1
  unfold wpX_addWithout
  dsimp only
  refine lx_first (lx_end hs H hx hT ⟨n + 1, ?_⟩)
  refine ln_walk (fun f i kk vv sz bg => wX_addWithout_15 post (nI y) (nI (48 * x + n)) f (nI (48 * x + i)) h (nI s) hk hv kk vv sz bg) (fun kk vv sz bg => post (h, nI s, hk, hv, kk, vv, sz, bg)) n (ln_g9 m K' K V)
    (fun f kk vv sz bg D H q => br_t (nI_le (Nat.le_refl _) (by omega)) q) (fun f i kk vv sz bg D hi H ih => ?_) n 0 D kk vv sz bg (by omega) H P
  obtain ⟨r1, r2, r3⟩ := ln_rd (by omega) H hx hT hi
  unfold ln_g9 at ih
  refine br_f (nI_ge (by omega) (by omega)) ⟨r3, lx_hasKey hs H hy hU r1 (fun c => br_t rfl ?_) fun c => br_f (by decide) (nm_r (nI_1 _) (ih _ _ _ _ ?_))⟩
  · rw [if_pos c] at ih
    exact ⟨r3, r3, lx_add hs H r1 r2 fun kk' vv' sz' bg' H' => nm_r (nI_1 _) (ih kk' vv' sz' bg' H')⟩
  · rw [if_neg c]
    exact H
theorem lx_addLast {a : Int32} (hs : s < 16) (H : ln_Tb T s D kk vv sz bg) (hx : x < s) (hT : T x = some (n, K, V))
    (P : ∀ kk' vv' sz' bg', ln_Tb T s (ln_fo D (ln_sq (ln_ga a n K V) n 0)) kk' vv' sz' bg' → post (h, nI s, hk, hv, kk', vv', sz', bg')) :
    wpX_addLast post (h, nI s, hk, hv, kk, vv, sz, bg) (nI x) a := by
  have hn := (ln_sz H hx hT).2.1
  unfold wpX_addLast
  dsimp only
  refine lx_first (lx_end hs H hx hT ⟨n + 1, ?_⟩)
  refine ln_walk (fun f i kk vv sz bg => wX_addLast_15 post a (nI (48 * x)) (nI (48 * x + n)) f (nI (48 * x + i)) h (nI s) hk hv kk vv sz bg) (fun kk vv sz bg => post (h, nI s, hk, hv, kk, vv, sz, bg)) n (ln_ga a n K V)
    (fun f kk vv sz bg D H q => br_t (nI_le (Nat.le_refl _) (by omega)) q) (fun f i kk vv sz bg D hi H ih => ?_) n 0 D kk vv sz bg (by omega) H P
  obtain ⟨r1, r2, r3⟩ := ln_rd (by omega) H hx hT hi
  unfold ln_ga at ih
  refine br_f (nI_ge (by omega) (by omega)) (lx_later hs H hx hT hi (br_c (fun c => nm_r (nI_1 _) (ih _ _ _ _ ?_)) fun c => ?_))
  · rw [if_pos c]
    exact H
  · rw [if_neg c] at ih
    exact ⟨r3, r3, lx_add hs H r1 r2 fun kk' vv' sz' bg' H' => nm_r (nI_1 _) (ih kk' vv' sz' bg' H')⟩
theorem ln_fk_le (K : Nat → Int32) : ∀ i, ln_fk K i ≤ i := by
  intro i
  induction i with
  | zero => exact Nat.le_refl _
  | succ i ih =>
    unfold ln_fk
    split <;> omega
theorem lx_addFolded {how : Int32} (hs : s < 16) (H : ln_Tb T s D kk vv sz bg) (hx : x < s) (hT : T x = some (n, K, V))
    (P : ∀ kk' vv' sz' bg', ln_Tb T s (ln_fo D (ln_sq (ln_g6 how n K V) n 0)) kk' vv' sz' bg' → post (h, nI s, hk, hv, kk', vv', sz', bg')) :
    wpX_addFolded post (h, nI s, hk, hv, kk, vv, sz, bg) (nI x) how := by
  have hn := (ln_sz H hx hT).2.1
  unfold wpX_addFolded
  dsimp only
  refine lx_first (lx_end hs H hx hT ⟨n + 1, ?_⟩)
  refine ln_walk (fun f i kk vv sz bg => ∀ x5, (i < n → x5 = nI (48 * x + ln_fk K i)) → wX_addFolded_18 post how (nI (48 * x + n)) f x5 (nI (48 * x + i)) h (nI s) hk hv kk vv sz bg) (fun kk vv sz bg => post (h, nI s, hk, hv, kk, vv, sz, bg)) n (ln_g6 how n K V)
    (fun f kk vv sz bg D H q x5 _ => br_t (nI_le (Nat.le_refl _) (by omega)) q) (fun f i kk vv sz bg D hi H ih x5 h5 => ?_) n 0 D kk vv sz bg (by omega) H P (nI (48 * x)) (fun _ => rfl)
  obtain ⟨r1, r2, r3⟩ := ln_rd (by omega) H hx hT hi
  have hf := ln_fk_le K i
  have h5' := h5 hi
  subst h5'
  unfold ln_g6 at ih
  have e1 : nI (48 * x + i) + 1 = nI (48 * x + (i + 1)) := nI_1 _
  have A : (i + 1 = n ∨ ¬ K (i + 1) = K i) → wX_addFolded_53 post (wX_addFolded_18 post how (nI (48 * x + n)) f) how (nI (48 * x + n)) (nI (48 * x + ln_fk K i)) (nI (48 * x + i)) h (nI s) hk hv kk vv sz bg := by
    intro c
    rw [if_pos c] at ih
    unfold wX_addFolded_53 wX_addFolded_58
    refine br_f (by decide) ?_
    rw [e1]
    refine lx_folded hs H hx hT hf hi ⟨r3, lx_add hs H r1 rfl fun kk' vv' sz' bg' H' => nm_e (nm_e (ih kk' vv' sz' bg' H' _ fun z => ?_))⟩
    have c' : ¬ K (i + 1) = K i := by
      rcases c with c | c
      · omega
      · exact c
    show nI (48 * x + (i + 1)) = nI (48 * x + if K (i + 1) = K i then ln_fk K i else i + 1)
    rw [if_neg c']
  refine br_f (nI_ge (by omega) (by omega)) ?_
  by_cases c : i + 1 = n
  · refine br_t ?_ (A (Or.inl c))
    rw [e1, c]
  · refine br_f ?_ ?_
    · rw [e1]
      exact fun z => absurd ((nI_eq (by omega) (by omega)).mp z) (by omega)
    · obtain ⟨q1, q2, q3⟩ := ln_rd (by omega) H hx hT (show i + 1 < n by omega)
      rw [e1, r1, q1]
      refine ⟨q3, r3, br_c (fun c2 => ?_) fun c2 => A (Or.inr c2)⟩
      unfold wX_addFolded_58
      refine br_t rfl (nm_r e1 (ih _ _ _ _ ?_ _ fun z => ?_))
      · rw [if_neg]
        · exact H
        · rintro (z | z)
          · exact c z
          · exact z c2
      · show nI (48 * x + ln_fk K i) = nI (48 * x + if K (i + 1) = K i then ln_fk K i else i + 1)
        rw [if_pos c2]
theorem lx_addHand {hn : Nat} (hh : hn ≤ 24) (hs : s < 16) (H : ln_Tb T s D kk vv sz bg)
    (P : ∀ kk' vv' sz' bg', ln_Tb T s (ln_fo D (ln_sq (fun i => [(hk i, hv i)]) hn 0)) kk' vv' sz' bg' → post (0, nI s, hk, hv, kk', vv', sz', bg')) :
    wpX_addHand post (nI hn, nI s, hk, hv, kk, vv, sz, bg) := by
  refine ⟨hn + 1, ?_⟩
  refine ln_walk (fun f i kk vv sz bg => wX_addHand_2 post f (nI i) (nI hn) (nI s) hk hv kk vv sz bg) (fun kk vv sz bg => post (0, nI s, hk, hv, kk, vv, sz, bg)) hn (fun i => [(hk i, hv i)])
    (fun f kk vv sz bg D H q => br_t (nI_le (Nat.le_refl _) (by omega)) q) (fun f i kk vv sz bg D hi H ih => ?_) hn 0 D kk vv sz bg (by omega) H P
  have r3 : vp_in (nI i) 24 := vp_in_nI (by omega) (by omega)
  exact br_f (nI_ge (by omega) (by omega)) ⟨r3, r3, lx_add hs H (congrArg hk (nI_clamp (by omega))) (congrArg hv (nI_clamp (by omega))) fun kk' vv' sz' bg' H' => nm_r (nI_1 _) (ih kk' vv' sz' bg' H')⟩
end
end
section
section
variable {T : Nat → ln_D} {y n : Nat} {K V : Nat → Int32} {x a b : Int32} {gl : ln_L}
theorem ln_rs_0 : ln_rs T 0 x a b gl = ln_fo ln_e0 gl := rfl
theorem ln_rs_1 (hy : y < 16) (hT : T y = some (n, K, V)) : ln_rs T 1 (nI y) a b gl = ln_fo ln_e0 (ln_sq (ln_g1 a b K V) n 0) := by
  unfold ln_rs
  rw [nI_clamp (n := y) (by omega), hT]
  rfl
theorem ln_rs_2 (hy : y < 16) (hT : T y = some (n, K, V)) : ln_rs T 2 (nI y) a b gl = ln_fo ln_e0 (ln_sq (ln_g2 a K V) n 0) := by
  unfold ln_rs
  rw [nI_clamp (n := y) (by omega), hT]
  rfl
theorem ln_rs_3 (hy : y < 16) (hT : T y = some (n, K, V)) : ln_rs T 3 (nI y) a b gl = ln_fo ln_e0 (ln_sq (ln_g3 a b K V) n 0) := by
  unfold ln_rs
  rw [nI_clamp (n := y) (by omega), hT]
  rfl
theorem ln_rs_6 (hy : y < 16) (hT : T y = some (n, K, V)) : ln_rs T 6 (nI y) a b gl = ln_fo ln_e0 (ln_sq (ln_g6 a n K V) n 0) := by
  unfold ln_rs
  rw [nI_clamp (n := y) (by omega), hT]
  rfl
theorem ln_rs_8 (hy : y < 16) (hT : T y = some (n, K, V)) : ln_rs T 8 (nI y) a b gl = ln_fo ln_e0 (ln_sq (ln_g8 K V) n 0) := by
  unfold ln_rs
  rw [nI_clamp (n := y) (by omega), hT]
  rfl
theorem ln_rs_10 (hy : y < 16) (hT : T y = some (n, K, V)) : ln_rs T 10 (nI y) a b gl = ln_fo ln_e0 (ln_sq (ln_ga a n K V) n 0) := by
  unfold ln_rs
  rw [nI_clamp (n := y) (by omega), hT]
  rfl
theorem ln_rs_11 (hy : y < 16) (hT : T y = some (n, K, V)) : ln_rs T 11 (nI y) a b gl = ln_fo ln_e0 (ln_sq (ln_gb K V) n 0) := by
  unfold ln_rs
  rw [nI_clamp (n := y) (by omega), hT]
  rfl
theorem ln_rs_4 {t : Nat} (ht : t ≤ 3) (hy : y < 16) (hT : T y = some (n, K, V)) : ln_rs T 4 (nI y) (nI t) b gl = ln_fo ln_e0 (ln_sq (ln_g4 t K V) n 0) := by
  unfold ln_rs
  rw [nI_clamp (n := y) (by omega), hT, nI_clamp (n := t) (by omega)]
  rfl
theorem ln_rs_5 {z m : Nat} {K' V' : Nat → Int32} (hy : y < 16) (hT : T y = some (n, K, V)) (hz : z < 16) (hU : T z = some (m, K', V')) : ln_rs T 5 (nI y) (nI z) b gl = ln_fo (ln_fo ln_e0 (ln_sq (ln_g4 1 K V) n 0)) (ln_sq (ln_g4 1 K' V') m 0) := by
  unfold ln_rs
  rw [nI_clamp (n := y) (by omega), hT, nI_clamp (n := z) (by omega), hU]
  rfl
theorem ln_rs_7 {z m : Nat} {K' V' : Nat → Int32} (hy : y < 16) (hT : T y = some (n, K, V)) (hz : z < 16) (hU : T z = some (m, K', V')) : ln_rs T 7 (nI y) (nI z) b gl = ln_fo ln_e0 (ln_sq (ln_g7 m K' V' K V) n 0) := by
  unfold ln_rs
  rw [nI_clamp (n := y) (by omega), hT, nI_clamp (n := z) (by omega), hU]
  rfl
theorem ln_rs_9 {z m : Nat} {K' V' : Nat → Int32} (hy : y < 16) (hT : T y = some (n, K, V)) (hz : z < 16) (hU : T z = some (m, K', V')) : ln_rs T 9 (nI y) (nI z) b gl = ln_fo ln_e0 (ln_sq (ln_g9 m K' K V) n 0) := by
  unfold ln_rs
  rw [nI_clamp (n := y) (by omega), hT, nI_clamp (n := z) (by omega), hU]
  rfl
theorem ln_rs_x {o : Int32} (ho : ¬ o = 0) (hy : y < 16) (hT : T y = none) : ln_rs T o (nI y) a b gl = none := by
  unfold ln_rs
  rw [if_neg ho, nI_clamp (n := y) (by omega), hT]
theorem ln_rs_a {o : Int32} {z : Nat} (ho : o = 5 ∨ o = 7 ∨ o = 9) (hy : y < 16) (hT : T y = some (n, K, V)) (hz : z < 16) (hU : T z = none) : ln_rs T o (nI y) (nI z) b gl = none := by
  have h0 : ¬ o = 0 := by
    rintro rfl
    revert ho
    decide
  unfold ln_rs
  rw [if_neg h0, nI_clamp (n := y) (by omega), hT, nI_clamp (n := z) (by omega), hU]
  dsimp only
  rw [if_pos ho]
end
section
variable {T : Nat → ln_D} {s y n : Nat} {K V kk vv sz bg hk hv : Nat → Int32} {h a b : Int32} {post : SX → Prop} {gl : ln_L}
theorem lx_w1 (hs : s < 16) (H : ln_Tb T s ln_e0 kk vv sz bg) (hy : y < s) (hT : T y = some (n, K, V))
    (P : ∀ kk' vv' sz' bg', ln_Tb T s (ln_rs T 1 (nI y) a b gl) kk' vv' sz' bg' → post (h, nI s, hk, hv, kk', vv', sz', bg')) :
    wpX_workOut post (h, nI s, hk, hv, kk, vv, sz, bg) 1 (nI y) a b := by
  rw [ln_rs_1 (by omega) hT] at P
  unfold wpX_workOut
  dsimp only
  exact br_f (by decide) (br_f (by decide) (br_f (by decide) (br_t rfl (lx_addScaled hs H hy hT P))))
theorem lx_w2 (hs : s < 16) (H : ln_Tb T s ln_e0 kk vv sz bg) (hy : y < s) (hT : T y = some (n, K, V))
    (P : ∀ kk' vv' sz' bg', ln_Tb T s (ln_rs T 2 (nI y) a b gl) kk' vv' sz' bg' → post (h, nI s, hk, hv, kk', vv', sz', bg')) :
    wpX_workOut post (h, nI s, hk, hv, kk, vv, sz, bg) 2 (nI y) a b := by
  rw [ln_rs_2 (by omega) hT] at P
  unfold wpX_workOut
  dsimp only
  exact br_f (by decide) (br_f (by decide) (br_f (by decide) (br_f (by decide) (br_t rfl (lx_addAtLeast hs H hy hT P)))))
theorem lx_w3 (hs : s < 16) (H : ln_Tb T s ln_e0 kk vv sz bg) (hy : y < s) (hT : T y = some (n, K, V))
    (P : ∀ kk' vv' sz' bg', ln_Tb T s (ln_rs T 3 (nI y) a b gl) kk' vv' sz' bg' → post (h, nI s, hk, hv, kk', vv', sz', bg')) :
    wpX_workOut post (h, nI s, hk, hv, kk, vv, sz, bg) 3 (nI y) a b := by
  rw [ln_rs_3 (by omega) hT] at P
  unfold wpX_workOut
  dsimp only
  exact br_f (by decide) (br_f (by decide) (br_f (by decide) (br_f (by decide) (br_f (by decide) (br_t rfl (lx_addRekeyed hs H hy hT P))))))
theorem lx_w6 (hs : s < 16) (H : ln_Tb T s ln_e0 kk vv sz bg) (hy : y < s) (hT : T y = some (n, K, V))
    (P : ∀ kk' vv' sz' bg', ln_Tb T s (ln_rs T 6 (nI y) a b gl) kk' vv' sz' bg' → post (h, nI s, hk, hv, kk', vv', sz', bg')) :
    wpX_workOut post (h, nI s, hk, hv, kk, vv, sz, bg) 6 (nI y) a b := by
  rw [ln_rs_6 (by omega) hT] at P
  unfold wpX_workOut
  dsimp only
  exact br_f (by decide) (br_f (by decide) (br_f (by decide) (br_f (by decide) (br_f (by decide) (br_f (by decide) (br_f (by decide) (br_f (by decide) (br_t rfl (lx_addFolded hs H hy hT P)))))))))
theorem lx_w8 (hs : s < 16) (H : ln_Tb T s ln_e0 kk vv sz bg) (hy : y < s) (hT : T y = some (n, K, V))
    (P : ∀ kk' vv' sz' bg', ln_Tb T s (ln_rs T 8 (nI y) a b gl) kk' vv' sz' bg' → post (h, nI s, hk, hv, kk', vv', sz', bg')) :
    wpX_workOut post (h, nI s, hk, hv, kk, vv, sz, bg) 8 (nI y) a b := by
  rw [ln_rs_8 (by omega) hT] at P
  unfold wpX_workOut
  dsimp only
  exact br_f (by decide) (br_f (by decide) (br_f (by decide) (br_f (by decide) (br_f (by decide) (br_f (by decide) (br_f (by decide) (br_f (by decide) (br_f (by decide) (br_f (by decide) (br_t rfl (lx_addDistinct hs H hy hT P)))))))))))
theorem lx_w10 (hs : s < 16) (H : ln_Tb T s ln_e0 kk vv sz bg) (hy : y < s) (hT : T y = some (n, K, V))
    (P : ∀ kk' vv' sz' bg', ln_Tb T s (ln_rs T 10 (nI y) a b gl) kk' vv' sz' bg' → post (h, nI s, hk, hv, kk', vv', sz', bg')) :
    wpX_workOut post (h, nI s, hk, hv, kk, vv, sz, bg) 10 (nI y) a b := by
  rw [ln_rs_10 (by omega) hT] at P
  unfold wpX_workOut
  dsimp only
  exact br_f (by decide) (br_f (by decide) (br_f (by decide) (br_f (by decide) (br_f (by decide) (br_f (by decide) (br_f (by decide) (br_f (by decide) (br_f (by decide) (br_f (by decide) (br_f (by decide) (br_f (by decide) (br_t rfl (lx_addLast hs H hy hT P)))))))))))))
theorem lx_w11 (hs : s < 16) (H : ln_Tb T s ln_e0 kk vv sz bg) (hy : y < s) (hT : T y = some (n, K, V))
    (P : ∀ kk' vv' sz' bg', ln_Tb T s (ln_rs T 11 (nI y) a b gl) kk' vv' sz' bg' → post (h, nI s, hk, hv, kk', vv', sz', bg')) :
    wpX_workOut post (h, nI s, hk, hv, kk, vv, sz, bg) 11 (nI y) a b := by
  rw [ln_rs_11 (by omega) hT] at P
  unfold wpX_workOut
  dsimp only
  exact br_f (by decide) (br_t (by decide) (lx_addSwapped hs H hy hT P))
theorem lx_w4 {t : Nat} (ht : t ≤ 3) (hs : s < 16) (H : ln_Tb T s ln_e0 kk vv sz bg) (hy : y < s) (hT : T y = some (n, K, V))
    (P : ∀ kk' vv' sz' bg', ln_Tb T s (ln_rs T 4 (nI y) (nI t) b gl) kk' vv' sz' bg' → post (h, nI s, hk, hv, kk', vv', sz', bg')) :
    wpX_workOut post (h, nI s, hk, hv, kk, vv, sz, bg) 4 (nI y) (nI t) b := by
  rw [ln_rs_4 ht (by omega) hT] at P
  unfold wpX_workOut
  dsimp only
  exact br_f (by decide) (br_f (by decide) (br_f (by decide) (br_f (by decide) (br_f (by decide) (br_f (by decide) (br_t rfl (lx_addRepeated (by omega) hs H hy hT P)))))))
theorem lx_w5 {z m : Nat} {K' V' : Nat → Int32} (hs : s < 16) (H : ln_Tb T s ln_e0 kk vv sz bg) (hy : y < s) (hT : T y = some (n, K, V)) (hz : z < s) (hU : T z = some (m, K', V'))
    (P : ∀ kk' vv' sz' bg', ln_Tb T s (ln_rs T 5 (nI y) (nI z) b gl) kk' vv' sz' bg' → post (h, nI s, hk, hv, kk', vv', sz', bg')) :
    wpX_workOut post (h, nI s, hk, hv, kk, vv, sz, bg) 5 (nI y) (nI z) b := by
  rw [ln_rs_5 (by omega) hT (by omega) hU] at P
  unfold wpX_workOut
  dsimp only
  exact br_f (by decide) (br_f (by decide) (br_f (by decide) (br_f (by decide) (br_f (by decide) (br_f (by decide) (br_f (by decide) (br_t rfl (lx_addRepeated (t := 1) (by omega) hs H hy hT fun kk' vv' sz' bg' H' => lx_addRepeated (t := 1) (by omega) hs H' hz hU P))))))))
theorem lx_w7 {z m : Nat} {K' V' : Nat → Int32} (hs : s < 16) (H : ln_Tb T s ln_e0 kk vv sz bg) (hy : y < s) (hT : T y = some (n, K, V)) (hz : z < s) (hU : T z = some (m, K', V'))
    (P : ∀ kk' vv' sz' bg', ln_Tb T s (ln_rs T 7 (nI y) (nI z) b gl) kk' vv' sz' bg' → post (h, nI s, hk, hv, kk', vv', sz', bg')) :
    wpX_workOut post (h, nI s, hk, hv, kk, vv, sz, bg) 7 (nI y) (nI z) b := by
  rw [ln_rs_7 (by omega) hT (by omega) hU] at P
  unfold wpX_workOut
  dsimp only
  exact br_f (by decide) (br_f (by decide) (br_f (by decide) (br_f (by decide) (br_f (by decide) (br_f (by decide) (br_f (by decide) (br_f (by decide) (br_f (by decide) (br_t rfl (lx_addJoined hs H hy hT hz hU P))))))))))
theorem lx_w9 {z m : Nat} {K' V' : Nat → Int32} (hs : s < 16) (H : ln_Tb T s ln_e0 kk vv sz bg) (hy : y < s) (hT : T y = some (n, K, V)) (hz : z < s) (hU : T z = some (m, K', V'))
    (P : ∀ kk' vv' sz' bg', ln_Tb T s (ln_rs T 9 (nI y) (nI z) b gl) kk' vv' sz' bg' → post (h, nI s, hk, hv, kk', vv', sz', bg')) :
    wpX_workOut post (h, nI s, hk, hv, kk, vv, sz, bg) 9 (nI y) (nI z) b := by
  rw [ln_rs_9 (by omega) hT (by omega) hU] at P
  unfold wpX_workOut
  dsimp only
  exact br_f (by decide) (br_f (by decide) (br_f (by decide) (br_f (by decide) (br_f (by decide) (br_f (by decide) (br_f (by decide) (br_f (by decide) (br_f (by decide) (br_f (by decide) (br_f (by decide) (br_t rfl (lx_addWithout hs H hy hT hz hU P))))))))))))
theorem lx_w0 {hn : Nat} {x : Int32} (hh : hn ≤ 24) (hs : s < 16) (H : ln_Tb T s ln_e0 kk vv sz bg)
    (P : ∀ kk' vv' sz' bg', ln_Tb T s (ln_rs T 0 x a b (ln_sq (fun i => [(hk i, hv i)]) hn 0)) kk' vv' sz' bg' → post (0, nI s, hk, hv, kk', vv', sz', bg')) :
    wpX_workOut post (nI hn, nI s, hk, hv, kk, vv, sz, bg) 0 x a b := by
  unfold wpX_workOut
  dsimp only
  exact br_f (by decide) (br_f (by decide) (br_t rfl (lx_addHand hh hs H P)))
end
theorem ln_start {T : Nat → ln_D} {s : Nat} {kk vv sz bg : Nat → Int32} (H : ∀ e, e < s → ln_Ho e (T e) kk vv sz bg) : ln_Tb T s ln_e0 kk vv (upd sz s 0) (upd bg s 0) :=
  ⟨fun e he => ln_Ho_fr he (H e he) (fun _ _ => ⟨rfl, rfl⟩) (pk_un (by omega)) (pk_un (by omega)), pk_us, Nat.zero_le _, pk_us, fun i hi => absurd hi (by omega)⟩
theorem ln_startb {T : Nat → ln_D} {s : Nat} {kk vv sz bg : Nat → Int32} {z : Int32} (H : ∀ e, e < s → ln_Ho e (T e) kk vv sz bg) : (∀ e, e < s → ln_Ho e (T e) kk vv (upd sz s z) (upd bg s 1)) ∧ ln_Ho s none kk vv (upd sz s z) (upd bg s 1) :=
  ⟨fun e he => ln_Ho_fr he (H e he) (fun _ _ => ⟨rfl, rfl⟩) (pk_un (by omega)) (pk_un (by omega)), pk_us⟩
end
section
def ln_kr (k : Int32) : Prop := 0 ≤ k.toInt ∧ k.toInt < 16
def ln_le2 (k v k' v' : Int32) : Prop := k.toInt < k'.toInt ∨ (k = k' ∧ v.toInt ≤ v'.toInt)
/-- in order by key, then by value; every key 0 to 15 -/
def ln_Gd (D : ln_D) : Prop := match D with
  | none => True
  | some (n, K, V) => (∀ i, i < n → ln_kr (K i)) ∧ ∀ i, i + 1 < n → ln_le2 (K i) (V i) (K (i + 1)) (V (i + 1))
theorem ln_po_hi (k v : Int32) (K V : Nat → Int32) : ∀ n j, ln_po k v K V n ≤ j → j < n → (k < K j ∨ (k = K j ∧ v < V j)) := by
  intro n
  induction n with
  | zero => intro j _ h; exact absurd h (by omega)
  | succ n ih =>
    intro j h1 h2
    unfold ln_po at h1
    split at h1
    · by_cases e : j = n
      · subst e; assumption
      · exact ih j h1 (by omega)
    · omega
theorem ln_po_lo (k v : Int32) (K V : Nat → Int32) : ∀ n q, ln_po k v K V n = q + 1 → ¬ (k < K q ∨ (k = K q ∧ v < V q)) := by
  intro n
  induction n with
  | zero => intro q h; exact absurd h (by unfold ln_po; omega)
  | succ n ih =>
    intro q h
    unfold ln_po at h
    split at h
    · exact ih q h
    · have : n = q := by omega
      subst this; assumption
theorem ln_lt_le2 {k v k' v' : Int32} (h : k < k' ∨ (k = k' ∧ v < v')) : ln_le2 k v k' v' := by
  rcases h with h | ⟨h, h2⟩
  · exact Or.inl (Int32.lt_iff_toInt_lt.mp h)
  · exact Or.inr ⟨h, Int.le_of_lt (Int32.lt_iff_toInt_lt.mp h2)⟩
theorem ln_nlt_le2 {k v k' v' : Int32} (h : ¬ (k < k' ∨ (k = k' ∧ v < v'))) : ln_le2 k' v' k v := by
  by_cases e : k = k'
  · refine Or.inr ⟨e.symm, ?_⟩
    have : ¬ v < v' := fun z => h (Or.inr ⟨e, z⟩)
    rw [Int32.lt_iff_toInt_lt] at this
    omega
  · refine Or.inl ?_
    have h1 : ¬ k < k' := fun z => h (Or.inl z)
    rw [Int32.lt_iff_toInt_lt] at h1
    have h2 : k.toInt ≠ k'.toInt := fun z => e (Int32.toInt_inj.mp z)
    omega
theorem ln_Gd_ap {D : ln_D} {p : Int32 × Int32} (hp : ln_kr p.1) (h : ln_Gd D) : ln_Gd (ln_ap D p) := by
  obtain ⟨k, v⟩ := p
  match D, h with
  | none, h => trivial
  | some (n, K, V), h =>
    show ln_Gd (if n < 48 then some (n + 1, ln_sh (ln_po k v K V n) k K, ln_sh (ln_po k v K V n) v V) else none)
    split
    · have hl := ln_po_le k v K V n
      have hhi := ln_po_hi k v K V n
      have hlo := ln_po_lo k v K V n
      generalize ln_po k v K V n = q at hl hhi hlo
      refine ⟨fun i hi => ?_, fun i hi => ?_⟩
      · unfold ln_sh
        split
        · exact h.1 i (by omega)
        · split
          · exact hp
          · exact h.1 (i - 1) (by omega)
      · unfold ln_sh
        by_cases c1 : i + 1 < q
        · rw [if_pos (by omega), if_pos c1, if_pos (by omega), if_pos c1]
          exact h.2 i (by omega)
        · by_cases c2 : i + 1 = q
          · rw [if_pos (by omega), if_neg c1, if_pos c2, if_pos (by omega), if_neg c1, if_pos c2]
            exact ln_nlt_le2 (hlo i c2.symm)
          · by_cases c3 : i = q
            · simp only [if_neg (show ¬ i < q by omega), if_pos c3, if_neg c1, if_neg c2]
              exact ln_lt_le2 (hhi i (by omega) (by omega))
            · simp only [if_neg (show ¬ i < q by omega), if_neg c3, if_neg c1, if_neg c2]
              have := h.2 (i - 1) (by omega)
              rw [show i - 1 + 1 = i by omega] at this
              exact this
    · trivial
theorem ln_Gd_fo {l : ln_L} : ∀ {D : ln_D}, (∀ p, p ∈ l → ln_kr p.1) → ln_Gd D → ln_Gd (ln_fo D l) := by
  induction l with
  | nil => intro D _ h; exact h
  | cons p l ih =>
    intro D hp h
    exact ih (D := ln_ap D p) (fun q hq => hp q (List.mem_cons_of_mem _ hq)) (ln_Gd_ap (hp p List.mem_cons_self) h)
theorem ln_Gd_e0 : ln_Gd ln_e0 := ⟨fun i hi => absurd hi (by omega), fun i hi => absurd hi (by omega)⟩
theorem ln_kr_and (x : Int32) : ln_kr (x &&& 15) := by
  obtain ⟨j, hj, e⟩ := pk_andE x (m := 15) 4 (by decide)
  rw [e]
  unfold ln_kr
  rw [nI_toInt (by omega)]
  omega
theorem ln_Gd_sq {D : ln_D} {g : Nat → ln_L} {n : Nat} (hg : ∀ i, i < n → ∀ p, p ∈ g i → ln_kr p.1) (h : ln_Gd D) : ln_Gd (ln_fo D (ln_sq g n 0)) := by
  refine ln_Gd_fo (fun p hp => ?_) h
  obtain ⟨j, _, h2, h3⟩ := ln_sq_mem _ _ hp
  exact hg j (by omega) p h3
theorem ln_one {p q : Int32 × Int32} {c : Prop} [Decidable c] {k : Int32} (hk : ln_kr k) (hq : q.1 = k) (h : p ∈ (if c then [q] else [])) : ln_kr p.1 := by
  split at h
  · rw [List.mem_singleton.mp h, hq]; exact hk
  · exact absurd h List.not_mem_nil
theorem ln_one' {p q : Int32 × Int32} {c : Prop} [Decidable c] {k : Int32} (hk : ln_kr k) (hq : q.1 = k) (h : p ∈ (if c then [] else [q])) : ln_kr p.1 := by
  split at h
  · exact absurd h List.not_mem_nil
  · rw [List.mem_singleton.mp h, hq]; exact hk
theorem ln_kr_g4 {t : Nat} {K V : Nat → Int32} {i : Nat} (hk : ln_kr (K i)) {p : Int32 × Int32} (h : p ∈ ln_g4 t K V i) : ln_kr p.1 := by
  obtain ⟨j, _, _, h3⟩ := ln_sq_mem _ _ h
  rw [List.mem_singleton.mp h3]
  exact hk
theorem ln_Gd_rs {T : Nat → ln_D} {o x a b : Int32} {gl : ln_L} (hx : ¬ o = 0 → ln_Gd (T x.toNatClampNeg)) (ha : (o = 5 ∨ o = 7 ∨ o = 9) → ln_Gd (T a.toNatClampNeg)) (hg : ∀ p, p ∈ gl → ln_kr p.1) : ln_Gd (ln_rs T o x a b gl) := by
  unfold ln_rs
  split
  · exact ln_Gd_fo hg ln_Gd_e0
  · rename_i h0
    have hx := hx h0
    split
    · trivial
    · rename_i n K V e
      rw [e] at hx
      have hk := hx.1
      split
      · rename_i h2
        have ha := ha h2
        split
        · trivial
        · rename_i m K' V' e2
          rw [e2] at ha
          split
          · exact ln_Gd_sq (fun i hi p hp => ln_kr_g4 (ha.1 i hi) hp) (ln_Gd_sq (fun i hi p hp => ln_kr_g4 (hk i hi) hp) ln_Gd_e0)
          · split
            · refine ln_Gd_sq (fun i hi p hp => ?_) ln_Gd_e0
              obtain ⟨j, _, _, h3⟩ := ln_sq_mem _ _ hp
              exact ln_one (hk i hi) rfl h3
            · exact ln_Gd_sq (fun i hi p hp => ln_one (hk i hi) rfl hp) ln_Gd_e0
      · split
        · refine ln_Gd_sq (fun i hi p hp => ?_) ln_Gd_e0
          rw [List.mem_singleton.mp hp]
          exact hk i hi
        · split
          · exact ln_Gd_sq (fun i hi p hp => ln_one' (hk i hi) rfl hp) ln_Gd_e0
          · split
            · refine ln_Gd_sq (fun i hi p hp => ?_) ln_Gd_e0
              rw [List.mem_singleton.mp hp]
              exact ln_kr_and _
            · split
              · exact ln_Gd_sq (fun i hi p hp => ln_kr_g4 (hk i hi) hp) ln_Gd_e0
              · split
                · exact ln_Gd_sq (fun i hi p hp => ln_one (hk i hi) rfl hp) ln_Gd_e0
                · split
                  · exact ln_Gd_sq (fun i hi p hp => ln_one (hk i hi) rfl hp) ln_Gd_e0
                  · split
                    · exact ln_Gd_sq (fun i hi p hp => ln_one' (hk i hi) rfl hp) ln_Gd_e0
                    · refine ln_Gd_sq (fun i hi p hp => ?_) ln_Gd_e0
                      rw [List.mem_singleton.mp hp]
                      exact ln_kr_and _
theorem ln_mono {n : Nat} {K V : Nat → Int32} (h : ln_Gd (some (n, K, V))) {i : Nat} : ∀ t, i + t < n → (K i).toInt ≤ (K (i + t)).toInt ∧ (K i = K (i + t) → (V i).toInt ≤ (V (i + t)).toInt) := by
  intro t
  induction t with
  | zero => intro _; exact ⟨Int.le_refl _, fun _ => Int.le_refl _⟩
  | succ t ih =>
    intro ht
    obtain ⟨h1, h2⟩ := ih (by omega)
    have h3 : ln_le2 (K (i + t)) (V (i + t)) (K (i + (t + 1))) (V (i + (t + 1))) := h.2 (i + t) (by omega)
    rcases h3 with h3 | ⟨h3, h4⟩
    · refine ⟨by omega, fun z => ?_⟩
      rw [z] at h1
      omega
    · rw [← h3]
      exact ⟨h1, fun z => Int.le_trans (h2 z) h4⟩
theorem ln_bhY {n i : Nat} {K V : Nat → Int32} (h : ln_Gd (some (n, K, V))) (hi : i < n) :
    ln_ct (fun j => decide (V i < V j ∨ (V j = V i ∧ (K i < K j ∨ (K j = K i ∧ i < j))))) n 0 = ln_bh V n i := by
  refine ln_ct_cg n 0 fun j _ hj => ?_
  rw [decide_eq_decide]
  have hj : j < n := by omega
  constructor
  · rintro (z | ⟨z, z2⟩)
    · exact Or.inl z
    · refine Or.inr ⟨z, ?_⟩
      rcases z2 with z2 | z2
      · have z3 := Int32.lt_iff_toInt_lt.mp z2
        by_cases c : i < j
        · exact c
        · have := (ln_mono h (i := j) (i - j) (by omega)).1
          rw [show j + (i - j) = i by omega] at this
          omega
      · exact z2.2
  · rintro (z | ⟨z, z2⟩)
    · exact Or.inl z
    · refine Or.inr ⟨z, ?_⟩
      have h1 := (ln_mono h (i := i) (j - i) (by omega)).1
      rw [show i + (j - i) = j by omega] at h1
      by_cases c : K j = K i
      · exact Or.inr ⟨c, z2⟩
      · refine Or.inl (Int32.lt_iff_toInt_lt.mpr ?_)
        have : (K j).toInt ≠ (K i).toInt := fun z => c (Int32.toInt_inj.mp z)
        omega
end
section
/-- one pair more of the key, as the reference folds it -/
def ln_ys (how : Int32) (c : Nat) (m v : Int32) : Int32 := if how = 0 then m + v else if how = 3 then m + 1 else if c = 0 ∨ (how = 1 ∧ v < m) ∨ (how = 2 ∧ m < v) then v else m
def ln_yg (how k : Int32) (K V : Nat → Int32) : Nat → Nat → Nat → Int32 → Nat × Int32
  | 0, _, c, m => (c, m)
  | l + 1, i, c, m => if K i = k then ln_yg how k K V l (i + 1) (c + 1) (ln_ys how c m (V i)) else ln_yg how k K V l (i + 1) c m
def ln_gY (how : Int32) (n : Nat) (K V : Nat → Int32) (k : Nat) : ln_L := if (ln_yg how (nI k) K V n 0 0 0).1 = 0 then [] else [(nI k, (ln_yg how (nI k) K V n 0 0 0).2)]
theorem ln_sq_spl (g : Nat → ln_L) (b : Nat) : ∀ a i, ln_sq g (a + b) i = ln_sq g a i ++ ln_sq g b (i + a) := by
  intro a
  induction a with
  | zero => intro i; rw [Nat.zero_add]; rfl
  | succ a ih =>
    intro i
    rw [show a + 1 + b = a + b + 1 by omega]
    show g i ++ ln_sq g (a + b) (i + 1) = (g i ++ ln_sq g a (i + 1)) ++ ln_sq g b (i + (a + 1))
    rw [ih (i + 1), List.append_assoc, show i + 1 + a = i + (a + 1) by omega]
theorem ln_sm_snoc (V : Nat → Int32) : ∀ l i a, ln_sm V (l + 1) i a = ln_sm V l i a + V (i + l) := by
  intro l
  induction l with
  | zero => intro i a; rfl
  | succ l ih =>
    intro i a
    show ln_sm V (l + 1) (i + 1) (a + V i) = ln_sm V l (i + 1) (a + V i) + V (i + (l + 1))
    rw [ih, show i + 1 + l = i + (l + 1) by omega]
theorem ln_yg_skip {how k : Int32} {K V : Nat → Int32} {r : Nat} {m : Int32} {c : Nat} : ∀ l i, (∀ j, i ≤ j → j < i + l → ¬ K j = k) → ln_yg how k K V (l + r) i c m = ln_yg how k K V r (i + l) c m := by
  intro l
  induction l with
  | zero => intro i _; rw [Nat.zero_add]; rfl
  | succ l ih =>
    intro i h
    rw [show l + 1 + r = l + r + 1 by omega]
    show (if K i = k then ln_yg how k K V (l + r) (i + 1) (c + 1) (ln_ys how c m (V i)) else ln_yg how k K V (l + r) (i + 1) c m) = _
    rw [if_neg (h i (Nat.le_refl _) (by omega)), ih (i + 1) (fun j h1 h2 => h j (by omega) (by omega)), show i + 1 + l = i + (l + 1) by omega]
theorem ln_ys_fv {t n p i : Nat} {K V : Nat → Int32} (ht : t ≤ 3) (h : ln_Gd (some (n, K, V))) (hp : p ≤ i) (hi : i < n) (hk : ∀ j, p ≤ j → j ≤ i → K j = K p) :
    ln_ys (nI t) (i - p) (if i = p then 0 else ln_fv (nI t) V p i) (V i) = ln_fv (nI t) V p (i + 1) := by
  have hm1 := (ln_mono h (i := p) (i - p) (by omega)).2
  rw [show p + (i - p) = i by omega] at hm1
  have hm1 := hm1 (hk i hp (Nat.le_refl _)).symm
  match t, ht with
  | 0, _ =>
    show (if i = p then 0 else ln_sm V (i - p) p 0) + V i = ln_sm V (i + 1 - p) p 0
    rw [show i + 1 - p = i - p + 1 by omega, ln_sm_snoc, show p + (i - p) = i by omega]
    by_cases e : i = p
    · rw [if_pos e, e, Nat.sub_self]
      rfl
    · rw [if_neg e]
  | 1, _ =>
    show (if i - p = 0 ∨ ((nI 1 : Int32) = 1 ∧ V i < (if i = p then 0 else V p)) ∨ ((nI 1 : Int32) = 2 ∧ (if i = p then 0 else V p) < V i) then V i else (if i = p then 0 else V p)) = V p
    by_cases e : i = p
    · rw [if_pos (Or.inl (by omega)), e]
    · rw [if_neg, if_neg e]
      rintro (z | ⟨_, z⟩ | ⟨z, _⟩)
      · omega
      · rw [if_neg e, Int32.lt_iff_toInt_lt] at z
        omega
      · exact absurd z (by decide)
  | 2, _ =>
    show (if i - p = 0 ∨ ((nI 2 : Int32) = 1 ∧ V i < (if i = p then 0 else V (i - 1))) ∨ ((nI 2 : Int32) = 2 ∧ (if i = p then 0 else V (i - 1)) < V i) then V i else (if i = p then 0 else V (i - 1))) = V i
    by_cases e : i = p
    · rw [if_pos (Or.inl (by omega))]
    · rw [if_neg e]
      have hm2 := (ln_mono h (i := i - 1) 1 (by omega)).2
      rw [show i - 1 + 1 = i by omega] at hm2
      have hm2 := hm2 ((hk (i - 1) (by omega) (by omega)).trans (hk i hp (Nat.le_refl _)).symm)
      by_cases c : V (i - 1) < V i
      · rw [if_pos (Or.inr (Or.inr ⟨rfl, c⟩))]
      · rw [if_neg]
        · rw [Int32.lt_iff_toInt_lt] at c
          exact Int32.toInt_inj.mp (by omega)
        · rintro (z | ⟨z, _⟩ | ⟨_, z⟩)
          · omega
          · exact absurd z (by decide)
          · exact c z
  | 3, _ =>
    show (if i = p then 0 else nI (i - p)) + 1 = nI (i + 1 - p)
    by_cases e : i = p
    · rw [if_pos e, e, show p + 1 - p = 1 by omega]
      rfl
    · rw [if_neg e, nI_1, show i + 1 - p = i - p + 1 by omega]
theorem ln_yg_run {t n p q r : Nat} {K V : Nat → Int32} (ht : t ≤ 3) (h : ln_Gd (some (n, K, V))) (hq : q ≤ n) (hk : ∀ j, p ≤ j → j < q → K j = K p) :
    ∀ l i, p ≤ i → i + l = q → ln_yg (nI t) (K p) K V (l + r) i (i - p) (if i = p then 0 else ln_fv (nI t) V p i) = ln_yg (nI t) (K p) K V r q (q - p) (if q = p then 0 else ln_fv (nI t) V p q) := by
  intro l
  induction l with
  | zero =>
    intro i h1 h2
    have : i = q := by omega
    subst this
    rw [Nat.zero_add]
  | succ l ih =>
    intro i h1 h2
    rw [show l + 1 + r = l + r + 1 by omega]
    show (if K i = K p then ln_yg (nI t) (K p) K V (l + r) (i + 1) (i - p + 1) (ln_ys (nI t) (i - p) (if i = p then 0 else ln_fv (nI t) V p i) (V i)) else _) = _
    rw [if_pos (hk i h1 (by omega)), ln_ys_fv ht h h1 (by omega) (fun j a b => hk j a (by omega))]
    have := ih (i + 1) (by omega) (by omega)
    rw [if_neg (show ¬ i + 1 = p by omega), show i + 1 - p = i - p + 1 by omega] at this
    exact this
theorem ln_cut {n : Nat} {K V : Nat → Int32} (h : ln_Gd (some (n, K, V))) (k : Int) : ∀ m, m ≤ n → ∃ p, p ≤ m ∧ (∀ i, i < p → (K i).toInt < k) ∧ (∀ i, p ≤ i → i < m → k ≤ (K i).toInt) := by
  intro m
  induction m with
  | zero => intro _; exact ⟨0, Nat.le_refl _, fun i hi => absurd hi (by omega), fun i _ hi => absurd hi (by omega)⟩
  | succ m ih =>
    intro hm
    obtain ⟨p, h1, h2, h3⟩ := ih (by omega)
    by_cases c : (K m).toInt < k
    · refine ⟨m + 1, Nat.le_refl _, fun i hi => ?_, fun i a b => absurd a (by omega)⟩
      have := (ln_mono h (i := i) (m - i) (by omega)).1
      rw [show i + (m - i) = m by omega] at this
      omega
    · refine ⟨p, by omega, h2, fun i a b => ?_⟩
      by_cases e : i = m
      · subst e; omega
      · exact h3 i a (by omega)
theorem ln_fk_run {K : Nat → Int32} {p q : Nat} (hp : p = 0 ∨ ¬ K p = K (p - 1)) (hk : ∀ j, p ≤ j → j < q → K j = K p) : ∀ t, p + t < q → ln_fk K (p + t) = p := by
  intro t
  induction t with
  | zero =>
    intro _
    show ln_fk K p = p
    match p, hp with
    | 0, _ => rfl
    | p + 1, hp =>
      show (if K (p + 1) = K p then ln_fk K p else p + 1) = p + 1
      rw [if_neg]
      rcases hp with hp | hp
      · omega
      · exact hp
  | succ t ih =>
    intro ht
    show (if K (p + t + 1) = K (p + t) then ln_fk K (p + t) else p + t + 1) = p
    rw [if_pos ((hk (p + t + 1) (by omega) ht).trans (hk (p + t) (by omega) (by omega)).symm), ih (by omega)]
theorem ln_g6_run {how : Int32} {n p q : Nat} {K V : Nat → Int32} (hq : q ≤ n) (hp : p = 0 ∨ ¬ K p = K (p - 1)) (hk : ∀ j, p ≤ j → j < q → K j = K p) (he : q = n ∨ ¬ K q = K p) :
    ∀ l i, p ≤ i → i + l + 1 = q → ln_sq (ln_g6 how n K V) (l + 1) i = [(K p, ln_fv how V p q)] := by
  intro l
  induction l with
  | zero =>
    intro i h1 h2
    show ln_g6 how n K V i ++ [] = _
    rw [List.append_nil]
    unfold ln_g6
    have f := ln_fk_run hp hk (i - p) (by omega)
    rw [show p + (i - p) = i by omega] at f
    have e1 : K i = K p := hk i h1 (by omega)
    have e2 : i + 1 = q := by omega
    rw [if_pos, f, e1, e2]
    rw [e2, e1]
    exact he
  | succ l ih =>
    intro i h1 h2
    show ln_g6 how n K V i ++ ln_sq (ln_g6 how n K V) (l + 1) (i + 1) = _
    rw [ih (i + 1) (by omega) (by omega)]
    unfold ln_g6
    rw [if_neg]
    · rfl
    · rintro (z | z)
      · omega
      · exact z ((hk (i + 1) (by omega) (by omega)).trans (hk i h1 (by omega)).symm)
theorem ln_fold {t n : Nat} {K V : Nat → Int32} (ht : t ≤ 3) (h : ln_Gd (some (n, K, V))) :
    ∀ r k p : Nat, k + r = 16 → p ≤ n → (∀ i, i < p → (K i).toInt < (k : Int)) → (∀ i, p ≤ i → i < n → (k : Int) ≤ (K i).toInt) → ln_sq (ln_g6 (nI t) n K V) (n - p) p = ln_sq (ln_gY (nI t) n K V) r k := by
  intro r
  induction r with
  | zero =>
    intro k p hk hp h1 h2
    have : p = n := by
      by_cases c : p < n
      · have a := h2 p (Nat.le_refl _) c
        have b := (h.1 p c).2
        omega
      · omega
    rw [this, Nat.sub_self]
    rfl
  | succ r ih =>
    intro k p hk hp h1 h2
    obtain ⟨q, g0, g1, g2⟩ := ln_cut h ((k + 1 : Nat) : Int) n (Nat.le_refl _)
    have hpq : p ≤ q := by
      by_cases c : q < p
      · have a := h1 q c
        have b := g2 q (Nat.le_refl _) (by omega)
        omega
      · omega
    have kk : ∀ j, p ≤ j → j < q → K j = nI k := by
      intro j a b
      have a1 := h2 j a (by omega)
      have b1 := g1 j b
      apply Int32.toInt_inj.mp
      rw [nI_toInt (by omega)]
      omega
    have k1 : ∀ j, j < p → ¬ K j = nI k := by
      intro j a z
      have a1 := h1 j a
      rw [z, nI_toInt (by omega)] at a1
      omega
    have k2 : ∀ j, q ≤ j → j < n → ¬ K j = nI k := by
      intro j a b z
      have a1 := g2 j a b
      rw [z, nI_toInt (by omega)] at a1
      omega
    have ih' := ih (k + 1) q (by omega) g0 g1 g2
    show _ = ln_gY (nI t) n K V k ++ ln_sq (ln_gY (nI t) n K V) r (k + 1)
    rw [← ih', show n - p = (q - p) + (n - q) by omega, ln_sq_spl, show p + (q - p) = q by omega]
    refine congrArg (· ++ ln_sq (ln_g6 (nI t) n K V) (n - q) q) ?_
    by_cases c : p = q
    · have y : ln_yg (nI t) (nI k) K V n 0 0 0 = (0, 0) := by
        have := ln_yg_skip (how := nI t) (k := nI k) (K := K) (V := V) (r := 0) (m := 0) (c := 0) n 0 (fun j a b => by
          by_cases z : j < p
          · exact k1 j z
          · exact k2 j (by omega) (by omega))
        exact this
      unfold ln_gY
      rw [y, c, Nat.sub_self]
      rfl
    · have ep : K p = nI k := kk p (Nat.le_refl _) (by omega)
      have kp : ∀ j, p ≤ j → j < q → K j = K p := fun j a b => (kk j a b).trans ep.symm
      have y : ln_yg (nI t) (nI k) K V n 0 0 0 = (q - p, ln_fv (nI t) V p q) := by
        have s1 := ln_yg_skip (how := nI t) (k := nI k) (K := K) (V := V) (r := (q - p) + (n - q)) (m := 0) (c := 0) p 0 (fun j a b => k1 j (by omega))
        have s2 := ln_yg_run (r := n - q) ht h g0 kp (q - p) p (Nat.le_refl _) (by omega)
        have s3 := ln_yg_skip (how := nI t) (k := nI k) (K := K) (V := V) (r := 0) (m := ln_fv (nI t) V p q) (c := q - p) (n - q) q (fun j a b => k2 j a (by omega))
        rw [if_pos rfl, Nat.sub_self, if_neg (show ¬ q = p by omega), ep] at s2
        rw [show p + ((q - p) + (n - q)) = n by omega, Nat.zero_add] at s1
        rw [s1, s2]
        exact s3
      unfold ln_gY
      rw [y, if_neg (show ¬ q - p = 0 by omega)]
      have hp0 : p = 0 ∨ ¬ K p = K (p - 1) := by
        by_cases z : p = 0
        · exact Or.inl z
        · refine Or.inr fun w => k1 (p - 1) (by omega) ?_
          rw [← w, ep]
      have he : q = n ∨ ¬ K q = K p := by
        by_cases z : q = n
        · exact Or.inl z
        · refine Or.inr fun w => k2 q (Nat.le_refl _) (by omega) ?_
          rw [w, ep]
      have := ln_g6_run (how := nI t) (V := V) g0 hp0 kp he (q - p - 1) p (Nat.le_refl _) (by omega)
      rw [show q - p - 1 + 1 = q - p by omega, ep] at this
      exact this
theorem ln_foldY {t n : Nat} {K V : Nat → Int32} (ht : t ≤ 3) (h : ln_Gd (some (n, K, V))) : ln_sq (ln_g6 (nI t) n K V) n 0 = ln_sq (ln_gY (nI t) n K V) 16 0 :=
  ln_fold ht h 16 0 0 rfl (Nat.zero_le _) (fun i hi => absurd hi (by omega)) (fun i _ hi => (h.1 i hi).1)
end
section
section
variable {T : Nat → ln_D} {d x n : Nat} {D : ln_D} {K V kk vv sz bg hk hv ki px pa pb gn gk gv : Nat → Int32} {hh nn : Int32}
theorem ly_ez (hs : d ≤ 16) (H : ln_Tb T d D kk vv sz bg) (hx : x < d) (hT : T x = some (n, K, V)) : 48 * nI x + sz (nI x).toNatClampNeg = nI (48 * x + n) := by
  rw [nI_clamp (by omega), (ln_sz H hx hT).2.2, ln_fq, nI_add]
theorem ly_ex (hs : d ≤ 16) (H : ln_Tb T d D kk vv sz bg) (hx : x < d) (hT : T x = some (n, K, V)) : 48 * nI x + sz (nI x).toNatClampNeg ≤ nI (48 * x + n) := by
  have := (ln_sz H hx hT).2.1
  rw [ly_ez hs H hx hT]
  exact nI_le (Nat.le_refl _) (by omega)
theorem ly_eg {i : Nat} (hs : d ≤ 16) (H : ln_Tb T d D kk vv sz bg) (hx : x < d) (hT : T x = some (n, K, V)) (hi : i < n) : ¬ 48 * nI x + sz (nI x).toNatClampNeg ≤ nI (48 * x + i) := by
  have := (ln_sz H hx hT).2.1
  rw [ly_ez hs H hx hT]
  exact nI_ge (by omega) (by omega)
theorem ly_isFirst {post : Int32 → Prop} {i : Nat} (hs : d < 16) (H : ln_Tb T d D kk vv sz bg) (hx : x < d) (hT : T x = some (n, K, V)) (hi : i < n)
    (P1 : (i = 0 ∨ ¬ K i = K (i - 1) ∨ ¬ V i = V (i - 1)) → post 1) (P0 : ¬ (i = 0 ∨ ¬ K i = K (i - 1) ∨ ¬ V i = V (i - 1)) → post 0) :
    wpY_isFirst post (hh, nn, hk, hv, ki, px, pa, pb, gn, gk, gv, sz, bg, kk, vv) (nI (48 * x + i)) := by
  have hn := (ln_sz H hx hT).2.1
  have e : nI (48 * x + i) - nI (48 * x + i) / 48 * 48 = nI i := by
    have := pk_rem (a := 48 * x + i) (d := 48) (by omega) (by omega) (by omega)
    rw [show (48 * x + i) % 48 = i by omega] at this
    exact this
  unfold wpY_isFirst
  dsimp only
  rw [e]
  refine ⟨by decide, ?_⟩
  match i, hi, P1, P0 with
  | 0, hi, P1, P0 => exact br_t rfl (P1 (Or.inl rfl))
  | i + 1, hi, P1, P0 =>
    obtain ⟨r1, r2, r3⟩ := ln_rd (by omega) H hx hT hi
    obtain ⟨q1, q2, q3⟩ := ln_rd (by omega) H hx hT (show i < n by omega)
    have e1 : nI (48 * x + (i + 1)) - 1 = nI (48 * x + i) := nI_pred (48 * x + i)
    rw [e1, r1, r2, q1, q2]
    refine br_f (nI_ne0 (by omega) (by omega)) ⟨q3, r3, br_c (fun c => ⟨q3, r3, br_c (fun c2 => P0 ?_) fun c2 => P1 (Or.inr (Or.inr fun z => c2 z.symm))⟩) fun c => P1 (Or.inr (Or.inl fun z => c z.symm))⟩
    rintro (z | z | z)
    · omega
    · exact z c.symm
    · exact z c2.symm
theorem ly_countKey_l {post : Int32 → Prop} {k : Int32} (hs : d < 16) (H : ln_Tb T d D kk vv sz bg) (hx : x < d) (hT : T x = some (n, K, V)) :
    ∀ l j c, j + l = n → post (nI (c + ln_ct (fun j => decide (K j = k)) l j)) → wY_countKey_8 post (nI x) k hh nn hk hv ki px pa pb gn gk gv sz bg kk vv (l + 1) (nI c) (nI (48 * x + j)) := by
  have xi : vp_in (nI x) 16 := vp_in_nI (by omega) (by omega)
  intro l
  induction l with
  | zero =>
    intro j c hj P
    have : j = n := by omega
    subst this
    exact ⟨xi, br_t (ly_ex (by omega) H hx hT) P⟩
  | succ l ih =>
    intro j c hj P
    obtain ⟨r1, r2, r3⟩ := ln_rd (by omega) H hx hT (show j < n by omega)
    have u : ln_ct (fun j => decide (K j = k)) (l + 1) j = (if decide (K j = k) = true then 1 else 0) + ln_ct (fun j => decide (K j = k)) l (j + 1) := rfl
    rw [u] at P
    refine ⟨xi, br_f (ly_eg (by omega) H hx hT (by omega)) ⟨r3, ?_⟩⟩
    rw [r1]
    refine br_c (fun e => nm_r (nI_1 c) (nm_r (nI_1 _) (ih (j + 1) (c + 1) (by omega) ?_))) fun e => nm_r (nI_1 _) (ih (j + 1) c (by omega) ?_)
    · rw [if_pos (decide_eq_true e), ← Nat.add_assoc] at P
      exact P
    · rw [if_neg (fun y => e (of_decide_eq_true y)), Nat.zero_add] at P
      exact P
theorem ly_countKey {post : Int32 → Prop} {k : Int32} (hs : d < 16) (H : ln_Tb T d D kk vv sz bg) (hx : x < d) (hT : T x = some (n, K, V)) (P : post (nI (ln_ct (fun j => decide (K j = k)) n 0))) :
    wpY_countKey post (hh, nn, hk, hv, ki, px, pa, pb, gn, gk, gv, sz, bg, kk, vv) (nI x) k := by
  unfold wpY_countKey
  dsimp only
  rw [ln_fq]
  exact nm_e ⟨n + 1, ly_countKey_l hs H hx hT n 0 0 (by omega) (by rw [Nat.zero_add]; exact P)⟩
theorem ly_behind_l {post : Int32 → Prop} {i : Nat} (hs : d < 16) (H : ln_Tb T d D kk vv sz bg) (hx : x < d) (hT : T x = some (n, K, V)) (hi : i < n) :
    ∀ l j c, j + l = n → post (nI (c + ln_ct (fun j => decide (V i < V j ∨ (V j = V i ∧ (K i < K j ∨ (K j = K i ∧ i < j))))) l j)) →
    wY_behind_8 post (nI x) (nI (48 * x + i)) hh nn hk hv ki px pa pb gn gk gv sz bg kk vv (l + 1) (nI c) (nI (48 * x + j)) := by
  have xi : vp_in (nI x) 16 := vp_in_nI (by omega) (by omega)
  have hn := (ln_sz H hx hT).2.1
  intro l
  induction l with
  | zero =>
    intro j c hj P
    have : j = n := by omega
    subst this
    exact ⟨xi, br_t (ly_ex (by omega) H hx hT) P⟩
  | succ l ih =>
    intro j c hj P
    obtain ⟨r1, r2, r3⟩ := ln_rd (by omega) H hx hT (show j < n by omega)
    obtain ⟨q1, q2, q3⟩ := ln_rd (by omega) H hx hT hi
    have A : (V i < V j ∨ (V j = V i ∧ (K i < K j ∨ (K j = K i ∧ i < j)))) → wY_behind_94 post (wY_behind_8 post (nI x) (nI (48 * x + i)) hh nn hk hv ki px pa pb gn gk gv sz bg kk vv (l + 1)) (nI x) (nI (48 * x + i)) (nI c) (nI (48 * x + j)) hh nn hk hv ki px pa pb gn gk gv sz bg kk vv := by
      intro z
      refine br_f (by decide) (nm_r (nI_1 c) (nm_r (nI_1 _) (ih (j + 1) (c + 1) (by omega) ?_)))
      have P2 : post (nI (c + ((if decide (V i < V j ∨ (V j = V i ∧ (K i < K j ∨ (K j = K i ∧ i < j)))) = true then 1 else 0) + ln_ct (fun j => decide (V i < V j ∨ (V j = V i ∧ (K i < K j ∨ (K j = K i ∧ i < j))))) l (j + 1)))) := P
      rw [if_pos (decide_eq_true z), ← Nat.add_assoc] at P2
      exact P2
    have B : ¬ (V i < V j ∨ (V j = V i ∧ (K i < K j ∨ (K j = K i ∧ i < j)))) → wY_behind_98 post (wY_behind_8 post (nI x) (nI (48 * x + i)) hh nn hk hv ki px pa pb gn gk gv sz bg kk vv (l + 1)) (nI x) (nI (48 * x + i)) (nI c) (nI (48 * x + j)) hh nn hk hv ki px pa pb gn gk gv sz bg kk vv := by
      intro z
      refine br_t rfl (nm_r (nI_1 _) (ih (j + 1) c (by omega) ?_))
      have P2 : post (nI (c + ((if decide (V i < V j ∨ (V j = V i ∧ (K i < K j ∨ (K j = K i ∧ i < j)))) = true then 1 else 0) + ln_ct (fun j => decide (V i < V j ∨ (V j = V i ∧ (K i < K j ∨ (K j = K i ∧ i < j))))) l (j + 1)))) := P
      rw [if_neg (fun y => z (of_decide_eq_true y)), Nat.zero_add] at P2
      exact P2
    refine ⟨xi, br_f (ly_eg (by omega) H hx hT (by omega)) ⟨r3, q3, ?_⟩⟩
    rw [r1, r2, q1, q2]
    refine br_c (fun e => A (Or.inl e)) fun e => ⟨r3, q3, br_c (fun e2 => ⟨r3, q3, br_c (fun e3 => A (Or.inr ⟨e2, Or.inl e3⟩)) fun e3 => ⟨r3, q3, br_c (fun e4 => ?_) fun e4 => B ?_⟩⟩) fun e2 => B ?_⟩
    · by_cases g : i < j
      · exact br_f (nI_ge (by omega) (by omega)) (A (Or.inr ⟨e2, Or.inr ⟨e4, g⟩⟩))
      · refine br_t (nI_le (by omega) (by omega)) (B ?_)
        rintro (z | ⟨_, z | ⟨_, z⟩⟩)
        · exact e z
        · exact e3 z
        · exact g z
    · rintro (z | ⟨_, z | ⟨z, _⟩⟩)
      · exact e z
      · exact e3 z
      · exact e4 z
    · rintro (z | ⟨z, _⟩)
      · exact e z
      · exact e2 z
theorem ly_behind {post : Int32 → Prop} {i : Nat} (hs : d < 16) (H : ln_Tb T d D kk vv sz bg) (hx : x < d) (hT : T x = some (n, K, V)) (hG : ln_Gd (T x)) (hi : i < n) (P : post (nI (ln_bh V n i))) :
    wpY_behind post (hh, nn, hk, hv, ki, px, pa, pb, gn, gk, gv, sz, bg, kk, vv) (nI x) (nI (48 * x + i)) := by
  rw [hT] at hG
  unfold wpY_behind
  dsimp only
  rw [ln_fq]
  exact nm_e ⟨n + 1, ly_behind_l hs H hx hT hi n 0 0 (by omega) (by rw [Nat.zero_add, ln_bhY hG hi]; exact P)⟩
end
section
variable {T : Nat → ln_D} {d x n : Nat} {D : ln_D} {K V kk vv sz bg hk hv ki px pa pb gn gk gv : Nat → Int32} {hh nn : Int32} {post : SY → Prop}
theorem ly_putAll (hs : d < 16) (H : ln_Tb T d D kk vv sz bg) (hx : x < d) (hT : T x = some (n, K, V)) (P : ∀ kk' vv' sz' bg', ln_Tb T d (ln_fo D (ln_sq (ln_g4 1 K V) n 0)) kk' vv' sz' bg' → post (hh, nn, hk, hv, ki, px, pa, pb, gn, gk, gv, sz', bg', kk', vv')) :
    wpY_putAll post (hh, nn, hk, hv, ki, px, pa, pb, gn, gk, gv, sz, bg, kk, vv) (nI d) (nI x) := by
  have xi : vp_in (nI x) 16 := vp_in_nI (by omega) (by omega)
  unfold wpY_putAll
  dsimp only
  rw [ln_fq]
  refine nm_e ⟨n + 1, ?_⟩
  refine ln_walk (fun f i kk vv sz bg => wY_putAll_5 post (nI d) (nI x) f (nI (48 * x + i)) hh nn hk hv ki px pa pb gn gk gv sz bg kk vv) (fun kk vv sz bg => post (hh, nn, hk, hv, ki, px, pa, pb, gn, gk, gv, sz, bg, kk, vv)) n (ln_g4 1 K V)
    (fun f kk vv sz bg D H q => ⟨xi, br_t (ly_ex (by omega) H hx hT) q⟩) (fun f i kk vv sz bg D hi H ih => ?_) n 0 D kk vv sz bg (by omega) H P
  obtain ⟨r1, r2, r3⟩ := ln_rd (by omega) H hx hT hi
  exact ⟨xi, br_f (ly_eg (by omega) H hx hT hi) ⟨r3, r3, ly_put hs H r1 r2 fun kk' vv' sz' bg' H' => nm_r (nI_1 _) (ih kk' vv' sz' bg' H')⟩⟩
theorem ly_match {y m : Nat} {K' V' : Nat → Int32} (hs : d < 16) (H : ln_Tb T d D kk vv sz bg) (hx : x < d) (hT : T x = some (n, K, V)) (hy : y < d) (hU : T y = some (m, K', V')) (P : ∀ kk' vv' sz' bg', ln_Tb T d (ln_fo D (ln_sq (ln_g7 m K' V' K V) n 0)) kk' vv' sz' bg' → post (hh, nn, hk, hv, ki, px, pa, pb, gn, gk, gv, sz', bg', kk', vv')) :
    wpY_match post (hh, nn, hk, hv, ki, px, pa, pb, gn, gk, gv, sz, bg, kk, vv) (nI d) (nI x) (nI y) := by
  have xi : vp_in (nI x) 16 := vp_in_nI (by omega) (by omega)
  have yi : vp_in (nI y) 16 := vp_in_nI (by omega) (by omega)
  unfold wpY_match
  dsimp only
  rw [ln_fq]
  refine nm_e ⟨n + 1, ?_⟩
  refine ln_walk (fun f i kk vv sz bg => wY_match_6 post (nI d) (nI x) (nI y) f (nI (48 * x + i)) hh nn hk hv ki px pa pb gn gk gv sz bg kk vv) (fun kk vv sz bg => post (hh, nn, hk, hv, ki, px, pa, pb, gn, gk, gv, sz, bg, kk, vv)) n (ln_g7 m K' V' K V)
    (fun f kk vv sz bg D H q => ⟨xi, br_t (ly_ex (by omega) H hx hT) q⟩) (fun f i kk vv sz bg D hi H ih => ?_) n 0 D kk vv sz bg (by omega) H P
  refine ⟨xi, br_f (ly_eg (by omega) H hx hT hi) (nm_r (ln_fq y) ⟨m + 1, ?_⟩)⟩
  refine ln_walk (fun g j kk vv sz bg => wY_match_28 post (wY_match_6 post (nI d) (nI x) (nI y) f) (nI d) (nI x) (nI y) (nI (48 * x + i)) g (nI (48 * y + j)) hh nn hk hv ki px pa pb gn gk gv sz bg kk vv)
    (fun kk vv sz bg => wY_match_6 post (nI d) (nI x) (nI y) f (nI (48 * x + (i + 1))) hh nn hk hv ki px pa pb gn gk gv sz bg kk vv) m (fun j => if K i = K' j then [(K i, V i + V' j)] else [])
    (fun g kk vv sz bg D H q => ⟨yi, br_t (ly_ex (by omega) H hy hU) (nm_r (nI_1 _) q)⟩) (fun g j kk vv sz bg D hj H ih2 => ?_) m 0 D kk vv sz bg (by omega) H ih
  obtain ⟨r1, r2, r3⟩ := ln_rd (by omega) H hx hT hi
  obtain ⟨q1, q2, q3⟩ := ln_rd (by omega) H hy hU hj
  refine ⟨yi, br_f (ly_eg (by omega) H hy hU hj) ⟨r3, q3, ?_⟩⟩
  rw [r1, r2, q1, q2]
  refine br_c (fun c => ⟨r3, r3, q3, ly_put hs H rfl rfl fun kk' vv' sz' bg' H' => nm_r (nI_1 _) (ih2 kk' vv' sz' bg' ?_)⟩) fun c => nm_r (nI_1 _) (ih2 _ _ _ _ ?_)
  · rw [if_pos c]
    exact H'
  · rw [if_neg c]
    exact H
theorem ly_latest {a : Int32} (hs : d < 16) (H : ln_Tb T d D kk vv sz bg) (hx : x < d) (hT : T x = some (n, K, V)) (hG : ln_Gd (T x)) (P : ∀ kk' vv' sz' bg', ln_Tb T d (ln_fo D (ln_sq (ln_ga a n K V) n 0)) kk' vv' sz' bg' → post (hh, nn, hk, hv, ki, px, pa, pb, gn, gk, gv, sz', bg', kk', vv')) :
    wpY_latest post (hh, nn, hk, hv, ki, px, pa, pb, gn, gk, gv, sz, bg, kk, vv) (nI d) (nI x) a := by
  have xi : vp_in (nI x) 16 := vp_in_nI (by omega) (by omega)
  unfold wpY_latest
  dsimp only
  rw [ln_fq]
  refine nm_e ⟨n + 1, ?_⟩
  refine ln_walk (fun f i kk vv sz bg => wY_latest_6 post (nI d) (nI x) a f (nI (48 * x + i)) hh nn hk hv ki px pa pb gn gk gv sz bg kk vv) (fun kk vv sz bg => post (hh, nn, hk, hv, ki, px, pa, pb, gn, gk, gv, sz, bg, kk, vv)) n (ln_ga a n K V)
    (fun f kk vv sz bg D H q => ⟨xi, br_t (ly_ex (by omega) H hx hT) q⟩) (fun f i kk vv sz bg D hi H ih => ?_) n 0 D kk vv sz bg (by omega) H P
  obtain ⟨r1, r2, r3⟩ := ln_rd (by omega) H hx hT hi
  unfold ln_ga at ih
  refine ⟨xi, br_f (ly_eg (by omega) H hx hT hi) (ly_behind hs H hx hT hG hi (br_c (fun c => nm_r (nI_1 _) (ih _ _ _ _ ?_)) fun c => ?_))⟩
  · rw [if_pos c]
    exact H
  · rw [if_neg c] at ih
    exact ⟨r3, r3, ly_put hs H r1 r2 fun kk' vv' sz' bg' H' => nm_r (nI_1 _) (ih kk' vv' sz' bg' H')⟩
theorem ly_given {c : Nat} (hs : d < 16) (hc : c ≤ 24) (hg : gn d = nI c) (H : ln_Tb T d D kk vv sz bg) (P : ∀ kk' vv' sz' bg', ln_Tb T d (ln_fo D (ln_sq (fun i => [(gk (24 * d + i), gv (24 * d + i))]) c 0)) kk' vv' sz' bg' → post (hh, nn, hk, hv, ki, px, pa, pb, gn, gk, gv, sz', bg', kk', vv')) :
    wY_workOut_112 post (nI d) (c + 1) (nI (24 * d)) hh nn hk hv ki px pa pb gn gk gv sz bg kk vv := by
  have di : vp_in (nI d) 16 := vp_in_nI (by omega) (by omega)
  have e : 24 * nI d + gn (nI d).toNatClampNeg = nI (24 * d + c) := by
    rw [nI_clamp (by omega), hg, ln_fr, nI_add]
  refine ln_walk (fun f i kk vv sz bg => wY_workOut_112 post (nI d) f (nI (24 * d + i)) hh nn hk hv ki px pa pb gn gk gv sz bg kk vv) (fun kk vv sz bg => post (hh, nn, hk, hv, ki, px, pa, pb, gn, gk, gv, sz, bg, kk, vv)) c (fun i => [(gk (24 * d + i), gv (24 * d + i))])
    (fun f kk vv sz bg D H q => ⟨di, br_t (by rw [e]; exact nI_le (Nat.le_refl _) (by omega)) q⟩) (fun f i kk vv sz bg D hi H ih => ?_) c 0 D kk vv sz bg (by omega) H P
  have r3 : vp_in (nI (24 * d + i)) 384 := vp_in_nI (by omega) (by omega)
  exact ⟨di, br_f (by rw [e]; exact nI_ge (by omega) (by omega)) ⟨r3, r3, ly_put hs H (congrArg gk (nI_clamp (by omega))) (congrArg gv (nI_clamp (by omega))) fun kk' vv' sz' bg' H' => nm_r (nI_1 _) (ih kk' vv' sz' bg' H')⟩⟩
end
end
section
section
variable {T : Nat → ln_D} {d x n : Nat} {D : ln_D} {K V kk vv sz bg hk hv ki px pa pb gn gk gv : Nat → Int32} {hh nn : Int32} {post : SY → Prop}
theorem ly_group_22 {J : Int32 → Int32 → Int32 → ln_F → ln_F → ln_F → ln_F → ln_F → ln_F → ln_F → ln_F → ln_F → ln_F → ln_F → ln_F → ln_F → Prop} {how : Int32} {k : Nat} (hs : d < 16) (H : ln_Tb T d D kk vv sz bg) (hx : x < d) (hT : T x = some (n, K, V)) :
    ∀ l i c m, i + l = n → c ≤ i → (∀ kk' vv' sz' bg', ln_Tb T d (ln_fo D (if (ln_yg how (nI k) K V l i c m).1 = 0 then [] else [(nI k, (ln_yg how (nI k) K V l i c m).2)])) kk' vv' sz' bg' → J (nI (k + 1)) hh nn hk hv ki px pa pb gn gk gv sz' bg' kk' vv') →
    wY_group_22 post J (nI d) (nI x) how (nI k) hh nn hk hv ki px pa pb gn gk gv sz bg kk vv (l + 1) (nI c) m (nI (48 * x + i)) := by
  have xi : vp_in (nI x) 16 := vp_in_nI (by omega) (by omega)
  have hn := (ln_sz H hx hT).2.1
  intro l
  induction l with
  | zero =>
    intro i c m hi hc P
    have : i = n := by omega
    subst this
    refine ⟨xi, br_t (ly_ex (by omega) H hx hT) ?_⟩
    have P2 : ∀ kk' vv' sz' bg', ln_Tb T d (ln_fo D (if c = 0 then [] else [(nI k, m)])) kk' vv' sz' bg' → J (nI (k + 1)) hh nn hk hv ki px pa pb gn gk gv sz' bg' kk' vv' := P
    by_cases z : c = 0
    · subst z
      exact br_t (by decide) (nm_r (nI_1 k) (P2 _ _ _ _ H))
    · rw [if_neg z] at P2
      exact br_f (nI_nle (by omega) (by omega)) (ly_put hs H rfl rfl fun kk' vv' sz' bg' H' => nm_r (nI_1 k) (P2 kk' vv' sz' bg' H'))
  | succ l ih =>
    intro i c m hi hc P
    obtain ⟨r1, r2, r3⟩ := ln_rd (by omega) H hx hT (show i < n by omega)
    have u : ln_yg how (nI k) K V (l + 1) i c m = if K i = nI k then ln_yg how (nI k) K V l (i + 1) (c + 1) (ln_ys how c m (V i)) else ln_yg how (nI k) K V l (i + 1) c m := rfl
    rw [u] at P
    refine ⟨xi, br_f (ly_eg (by omega) H hx hT (by omega)) ⟨r3, ?_⟩⟩
    rw [r1, r2]
    refine br_c (fun e => ⟨r3, nm_e ?_⟩) fun e => nm_r (nI_1 _) (ih (i + 1) c m (by omega) (by omega) ?_)
    · rw [if_pos e] at P
      have A : ∀ m', ln_ys how c m (V i) = m' → wY_group_22 post J (nI d) (nI x) how (nI k) hh nn hk hv ki px pa pb gn gk gv sz bg kk vv (l + 1) (nI (c + 1)) m' (nI (48 * x + (i + 1))) := by
        intro m' em
        rw [em] at P
        exact ih (i + 1) (c + 1) m' (by omega) (by omega) P
      unfold ln_ys at A
      have B : ¬ how = 0 → ¬ how = 3 → ¬ c = 0 → ¬ (how = 1 ∧ V i < m) → wY_group_101 post J (wY_group_22 post J (nI d) (nI x) how (nI k) hh nn hk hv ki px pa pb gn gk gv sz bg kk vv (l + 1)) (nI d) (nI x) how (nI k) (nI c) m (nI (48 * x + i)) (V i) hh nn hk hv ki px pa pb gn gk gv sz bg kk vv := by
        intro b1 b2 b3 b4
        rw [if_neg b1, if_neg b2] at A
        refine br_c (fun c1 => br_c (fun c2 => nm_r (nI_1 c) (nm_r (nI_1 _) (A m (if_neg ?_)))) fun c2 => nm_r (nI_1 c) (nm_r (nI_1 _) (A (V i) (if_pos (Or.inr (Or.inr ⟨c1, Int32.not_le.mp c2⟩)))))) fun c1 => nm_r (nI_1 c) (nm_r (nI_1 _) (A m (if_neg ?_)))
        · rintro (z | z | ⟨_, z⟩)
          · exact b3 z
          · exact b4 z
          · exact (Int32.not_lt.mpr c2) z
        · rintro (z | z | ⟨z, _⟩)
          · exact b3 z
          · exact b4 z
          · exact c1 z
      refine br_c (fun c1 => nm_e (nm_r (nI_1 c) (nm_r (nI_1 _) (A _ (if_pos c1))))) fun c1 => br_c (fun c2 => nm_e (nm_r (nI_1 c) (nm_r (nI_1 _) (A _ ?_)))) fun c2 => ?_
      · rw [if_neg c1, if_pos c2]
      · by_cases z : c = 0
        · refine br_t (by rw [z]; rfl) (nm_r (nI_1 c) (nm_r (nI_1 _) (A _ ?_)))
          rw [if_neg c1, if_neg c2, if_pos (Or.inl z)]
        · refine br_f (nI_ne0 (by omega) (by omega)) (br_c (fun c3 => br_c (fun c4 => nm_r (nI_1 c) (nm_r (nI_1 _) (A _ ?_))) fun c4 => B c1 c2 z fun y => c4 y.2) fun c3 => B c1 c2 z fun y => c3 y.1)
          rw [if_neg c1, if_neg c2, if_pos (Or.inr (Or.inl ⟨c3, c4⟩))]
    · rw [if_neg e] at P
      exact P
theorem ly_group {t : Nat} (ht : t ≤ 3) (hs : d < 16) (H : ln_Tb T d D kk vv sz bg) (hx : x < d) (hT : T x = some (n, K, V)) (hG : ln_Gd (T x)) (P : ∀ kk' vv' sz' bg', ln_Tb T d (ln_fo D (ln_sq (ln_g6 (nI t) n K V) n 0)) kk' vv' sz' bg' → post (hh, nn, hk, hv, ki, px, pa, pb, gn, gk, gv, sz', bg', kk', vv')) :
    wpY_group post (hh, nn, hk, hv, ki, px, pa, pb, gn, gk, gv, sz, bg, kk, vv) (nI d) (nI x) (nI t) := by
  rw [hT] at hG
  rw [ln_foldY ht hG] at P
  refine ⟨16 + 1, ?_⟩
  refine ln_walk (fun f i kk vv sz bg => wY_group_3 post (nI d) (nI x) (nI t) f (nI i) hh nn hk hv ki px pa pb gn gk gv sz bg kk vv) (fun kk vv sz bg => post (hh, nn, hk, hv, ki, px, pa, pb, gn, gk, gv, sz, bg, kk, vv)) 16 (ln_gY (nI t) n K V)
    (fun f kk vv sz bg D H q => br_t (by decide) q) (fun f i kk vv sz bg D hi H ih => ?_) 16 0 D kk vv sz bg (by omega) H P
  exact br_f (nI_ge (b := 16) (by omega) (by decide)) (nm_r (ln_fq x) ⟨n + 1, ly_group_22 hs H hx hT n 0 0 0 (by omega) (Nat.le_refl _) ih⟩)
variable {i : Nat} {a b : Int32}
theorem ly_e1 (hs : d < 16) (H : ln_Tb T d D kk vv sz bg) (hx : x < d) (hT : T x = some (n, K, V)) (hi : i < n) (P : ∀ kk' vv' sz' bg', ln_Tb T d (ln_fo D (ln_g1 a b K V i)) kk' vv' sz' bg' → post (hh, nn, hk, hv, ki, px, pa, pb, gn, gk, gv, sz', bg', kk', vv')) :
    wpY_each post (hh, nn, hk, hv, ki, px, pa, pb, gn, gk, gv, sz, bg, kk, vv) (nI d) 1 (nI (48 * x + i)) a b := by
  obtain ⟨r1, r2, r3⟩ := ln_rd (by omega) H hx hT hi
  exact ⟨r3, nm_r r1 ⟨r3, nm_r r2 (br_t rfl (ly_put hs H rfl rfl fun kk' vv' sz' bg' H' => br_f (by decide) (br_f (by decide) (br_f (by decide) (br_f (by decide) (br_f (by decide) (br_f (by decide) (P kk' vv' sz' bg' H'))))))))⟩⟩
theorem ly_e2 (hs : d < 16) (H : ln_Tb T d D kk vv sz bg) (hx : x < d) (hT : T x = some (n, K, V)) (hi : i < n) (P : ∀ kk' vv' sz' bg', ln_Tb T d (ln_fo D (ln_g2 a K V i)) kk' vv' sz' bg' → post (hh, nn, hk, hv, ki, px, pa, pb, gn, gk, gv, sz', bg', kk', vv')) :
    wpY_each post (hh, nn, hk, hv, ki, px, pa, pb, gn, gk, gv, sz, bg, kk, vv) (nI d) 2 (nI (48 * x + i)) a b := by
  obtain ⟨r1, r2, r3⟩ := ln_rd (by omega) H hx hT hi
  unfold ln_g2 at P
  refine ⟨r3, nm_r r1 ⟨r3, nm_r r2 (br_f (by decide) (br_t rfl (br_c (fun c => ?_) fun c => ?_)))⟩⟩
  · rw [if_pos c] at P
    exact br_f (by decide) (br_f (by decide) (br_f (by decide) (br_f (by decide) (br_f (by decide) (P _ _ _ _ H)))))
  · rw [if_neg c] at P
    exact ly_put hs H rfl rfl fun kk' vv' sz' bg' H' => br_f (by decide) (br_f (by decide) (br_f (by decide) (br_f (by decide) (br_f (by decide) (P kk' vv' sz' bg' H')))))
theorem ly_e3 (hs : d < 16) (H : ln_Tb T d D kk vv sz bg) (hx : x < d) (hT : T x = some (n, K, V)) (hi : i < n) (P : ∀ kk' vv' sz' bg', ln_Tb T d (ln_fo D (ln_g3 a b K V i)) kk' vv' sz' bg' → post (hh, nn, hk, hv, ki, px, pa, pb, gn, gk, gv, sz', bg', kk', vv')) :
    wpY_each post (hh, nn, hk, hv, ki, px, pa, pb, gn, gk, gv, sz, bg, kk, vv) (nI d) 3 (nI (48 * x + i)) a b := by
  obtain ⟨r1, r2, r3⟩ := ln_rd (by omega) H hx hT hi
  exact ⟨r3, nm_r r1 ⟨r3, nm_r r2 (br_f (by decide) (br_f (by decide) (br_t rfl (ly_put hs H rfl rfl fun kk' vv' sz' bg' H' => br_f (by decide) (br_f (by decide) (br_f (by decide) (br_f (by decide) (P kk' vv' sz' bg' H'))))))))⟩⟩
theorem ly_e4 {t : Nat} (ht : t ≤ 3) (hs : d < 16) (H : ln_Tb T d D kk vv sz bg) (hx : x < d) (hT : T x = some (n, K, V)) (hi : i < n) (P : ∀ kk' vv' sz' bg', ln_Tb T d (ln_fo D (ln_g4 t K V i)) kk' vv' sz' bg' → post (hh, nn, hk, hv, ki, px, pa, pb, gn, gk, gv, sz', bg', kk', vv')) :
    wpY_each post (hh, nn, hk, hv, ki, px, pa, pb, gn, gk, gv, sz, bg, kk, vv) (nI d) 4 (nI (48 * x + i)) (nI t) b := by
  obtain ⟨r1, r2, r3⟩ := ln_rd (by omega) H hx hT hi
  refine ⟨r3, nm_r r1 ⟨r3, nm_r r2 (br_f (by decide) (br_f (by decide) (br_f (by decide) (br_t rfl ⟨t + 1, ?_⟩))))⟩⟩
  refine ln_walk (fun f j kk vv sz bg => wY_each_88 post (nI d) 4 (nI (48 * x + i)) (nI t) (K i) (V i) f (nI j) hh nn hk hv ki px pa pb gn gk gv sz bg kk vv) (fun kk vv sz bg => post (hh, nn, hk, hv, ki, px, pa, pb, gn, gk, gv, sz, bg, kk, vv)) t (fun _ => [(K i, V i)])
    (fun f kk vv sz bg D H q => br_t (nI_le (Nat.le_refl _) (by omega)) (br_f (by decide) (br_f (by decide) (br_f (by decide) q)))) (fun f j kk vv sz bg D hj H ih => ?_) t 0 D kk vv sz bg (by omega) H P
  exact br_f (nI_ge (by omega) (by omega)) (ly_put hs H rfl rfl fun kk' vv' sz' bg' H' => nm_r (nI_1 _) (ih kk' vv' sz' bg' H'))
theorem ly_e8 (hs : d < 16) (H : ln_Tb T d D kk vv sz bg) (hx : x < d) (hT : T x = some (n, K, V)) (hi : i < n) (P : ∀ kk' vv' sz' bg', ln_Tb T d (ln_fo D (ln_g8 K V i)) kk' vv' sz' bg' → post (hh, nn, hk, hv, ki, px, pa, pb, gn, gk, gv, sz', bg', kk', vv')) :
    wpY_each post (hh, nn, hk, hv, ki, px, pa, pb, gn, gk, gv, sz, bg, kk, vv) (nI d) 8 (nI (48 * x + i)) a b := by
  obtain ⟨r1, r2, r3⟩ := ln_rd (by omega) H hx hT hi
  unfold ln_g8 at P
  refine ⟨r3, nm_r r1 ⟨r3, nm_r r2 (br_f (by decide) (br_f (by decide) (br_f (by decide) (br_f (by decide) (br_t rfl (ly_isFirst hs H hx hT hi (fun c => ?_) fun c => ?_))))))⟩⟩
  · rw [if_pos c] at P
    exact br_f (by decide) (ly_put hs H rfl rfl fun kk' vv' sz' bg' H' => br_f (by decide) (br_f (by decide) (P kk' vv' sz' bg' H')))
  · rw [if_neg c] at P
    exact br_t rfl (br_f (by decide) (br_f (by decide) (P _ _ _ _ H)))
theorem ly_e9 {y m : Nat} {K' V' : Nat → Int32} (hs : d < 16) (H : ln_Tb T d D kk vv sz bg) (hx : x < d) (hT : T x = some (n, K, V)) (hy : y < d) (hU : T y = some (m, K', V')) (hi : i < n) (P : ∀ kk' vv' sz' bg', ln_Tb T d (ln_fo D (ln_g9 m K' K V i)) kk' vv' sz' bg' → post (hh, nn, hk, hv, ki, px, pa, pb, gn, gk, gv, sz', bg', kk', vv')) :
    wpY_each post (hh, nn, hk, hv, ki, px, pa, pb, gn, gk, gv, sz, bg, kk, vv) (nI d) 9 (nI (48 * x + i)) (nI y) b := by
  obtain ⟨r1, r2, r3⟩ := ln_rd (by omega) H hx hT hi
  have hm := (ln_sz H hy hU).2.1
  have hc := ln_ct_le (fun j => decide (K' j = K i)) m 0
  unfold ln_g9 at P
  refine ⟨r3, nm_r r1 ⟨r3, nm_r r2 (br_f (by decide) (br_f (by decide) (br_f (by decide) (br_f (by decide) (br_f (by decide) (br_t rfl (ly_countKey hs H hy hU ?_)))))))⟩⟩
  by_cases c : ln_ct (fun j => decide (K' j = K i)) m 0 = 0
  · rw [if_pos c] at P
    rw [c]
    exact br_t rfl (ly_put hs H rfl rfl fun kk' vv' sz' bg' H' => br_f (by decide) (P kk' vv' sz' bg' H'))
  · rw [if_neg c] at P
    exact br_f (nI_ne0 (by omega) (by omega)) (br_f (by decide) (P _ _ _ _ H))
theorem ly_e11 (hs : d < 16) (H : ln_Tb T d D kk vv sz bg) (hx : x < d) (hT : T x = some (n, K, V)) (hi : i < n) (P : ∀ kk' vv' sz' bg', ln_Tb T d (ln_fo D (ln_gb K V i)) kk' vv' sz' bg' → post (hh, nn, hk, hv, ki, px, pa, pb, gn, gk, gv, sz', bg', kk', vv')) :
    wpY_each post (hh, nn, hk, hv, ki, px, pa, pb, gn, gk, gv, sz, bg, kk, vv) (nI d) 11 (nI (48 * x + i)) a b := by
  obtain ⟨r1, r2, r3⟩ := ln_rd (by omega) H hx hT hi
  exact ⟨r3, nm_r r1 ⟨r3, nm_r r2 (br_f (by decide) (br_f (by decide) (br_f (by decide) (br_f (by decide) (br_f (by decide) (br_f (by decide) (br_t rfl (ly_put hs H rfl rfl P))))))))⟩⟩
theorem ly_234 {o : Int32} {g : Nat → ln_L} (hs : d < 16) (H : ln_Tb T d D kk vv sz bg) (hx : x < d) (hT : T x = some (n, K, V))
    (E : ∀ (i : Nat) (kk vv sz bg : Nat → Int32) (D : ln_D) (post : SY → Prop), i < n → ln_Tb T d D kk vv sz bg → (∀ kk' vv' sz' bg', ln_Tb T d (ln_fo D (g i)) kk' vv' sz' bg' → post (hh, nn, hk, hv, ki, px, pa, pb, gn, gk, gv, sz', bg', kk', vv')) → wpY_each post (hh, nn, hk, hv, ki, px, pa, pb, gn, gk, gv, sz, bg, kk, vv) (nI d) o (nI (48 * x + i)) a (pb d))
    (P : ∀ kk' vv' sz' bg', ln_Tb T d (ln_fo D (ln_sq g n 0)) kk' vv' sz' bg' → post (hh, nn, hk, hv, ki, px, pa, pb, gn, gk, gv, sz', bg', kk', vv')) :
    wY_workOut_234 post (nI d) o (nI x) a (n + 1) (nI (48 * x)) hh nn hk hv ki px pa pb gn gk gv sz bg kk vv := by
  have xi : vp_in (nI x) 16 := vp_in_nI (by omega) (by omega)
  have di : vp_in (nI d) 16 := vp_in_nI (by omega) (by omega)
  refine ln_walk (fun f i kk vv sz bg => wY_workOut_234 post (nI d) o (nI x) a f (nI (48 * x + i)) hh nn hk hv ki px pa pb gn gk gv sz bg kk vv) (fun kk vv sz bg => post (hh, nn, hk, hv, ki, px, pa, pb, gn, gk, gv, sz, bg, kk, vv)) n g
    (fun f kk vv sz bg D H q => ⟨xi, br_t (ly_ex (by omega) H hx hT) q⟩) (fun f i kk vv sz bg D hi H ih => ?_) n 0 D kk vv sz bg (by omega) H P
  refine ⟨xi, br_f (ly_eg (by omega) H hx hT hi) ⟨di, ?_⟩⟩
  rw [nI_clamp (n := d) (by omega)]
  exact E i kk vv sz bg D _ hi H fun kk' vv' sz' bg' H' => nm_r (nI_1 _) (ih kk' vv' sz' bg' H')
end
end
section
section
variable {T : Nat → ln_D} {d y n : Nat} {K V kk vv sz bg hk hv ki px pa pb gn gk gv : Nat → Int32} {hh nn a : Int32} {post : SY → Prop} {gl : ln_L}
theorem ly_v1 (hs : d < 16) (H : ∀ e, e < d → ln_Ho e (T e) kk vv sz bg) (hy : y < d) (hT : T y = some (n, K, V)) (P : ∀ kk' vv' sz' bg', ln_Tb T d (ln_rs T 1 (nI y) a (pb d) gl) kk' vv' sz' bg' → post (hh, nn, hk, hv, ki, px, pa, pb, gn, gk, gv, sz', bg', kk', vv')) :
    wY_workOut_91 post (nI d) 1 (nI y) a 0 (nI d) hh nn hk hv ki px pa pb gn gk gv (upd sz d 0) bg kk vv := by
  rw [ln_rs_1 (by omega) hT] at P
  have H0 := ln_start H
  have di : vp_in (nI d) 16 := vp_in_nI (by omega) (by omega)
  unfold wY_workOut_91
  rw [nI_clamp (n := d) (by omega), lx_nar0]
  refine ⟨di, nm_e ⟨di, br_t pk_us ?_⟩⟩
  exact br_f (by decide) (br_f (by decide) (br_f (by decide) (br_f (by decide) (br_f (by decide) (nm_r (ln_fq y) ⟨n + 1, ly_234 hs H0 hy hT (fun i kk vv sz bg D post hi H P => ly_e1 hs H hy hT hi P) P⟩)))))
theorem ly_v2 (hs : d < 16) (H : ∀ e, e < d → ln_Ho e (T e) kk vv sz bg) (hy : y < d) (hT : T y = some (n, K, V)) (P : ∀ kk' vv' sz' bg', ln_Tb T d (ln_rs T 2 (nI y) a (pb d) gl) kk' vv' sz' bg' → post (hh, nn, hk, hv, ki, px, pa, pb, gn, gk, gv, sz', bg', kk', vv')) :
    wY_workOut_91 post (nI d) 2 (nI y) a 0 (nI d) hh nn hk hv ki px pa pb gn gk gv (upd sz d 0) bg kk vv := by
  rw [ln_rs_2 (by omega) hT] at P
  have H0 := ln_start H
  have di : vp_in (nI d) 16 := vp_in_nI (by omega) (by omega)
  unfold wY_workOut_91
  rw [nI_clamp (n := d) (by omega), lx_nar0]
  refine ⟨di, nm_e ⟨di, br_t pk_us ?_⟩⟩
  exact br_f (by decide) (br_f (by decide) (br_f (by decide) (br_f (by decide) (br_f (by decide) (nm_r (ln_fq y) ⟨n + 1, ly_234 hs H0 hy hT (fun i kk vv sz bg D post hi H P => ly_e2 hs H hy hT hi P) P⟩)))))
theorem ly_v3 (hs : d < 16) (H : ∀ e, e < d → ln_Ho e (T e) kk vv sz bg) (hy : y < d) (hT : T y = some (n, K, V)) (P : ∀ kk' vv' sz' bg', ln_Tb T d (ln_rs T 3 (nI y) a (pb d) gl) kk' vv' sz' bg' → post (hh, nn, hk, hv, ki, px, pa, pb, gn, gk, gv, sz', bg', kk', vv')) :
    wY_workOut_91 post (nI d) 3 (nI y) a 0 (nI d) hh nn hk hv ki px pa pb gn gk gv (upd sz d 0) bg kk vv := by
  rw [ln_rs_3 (by omega) hT] at P
  have H0 := ln_start H
  have di : vp_in (nI d) 16 := vp_in_nI (by omega) (by omega)
  unfold wY_workOut_91
  rw [nI_clamp (n := d) (by omega), lx_nar0]
  refine ⟨di, nm_e ⟨di, br_t pk_us ?_⟩⟩
  exact br_f (by decide) (br_f (by decide) (br_f (by decide) (br_f (by decide) (br_f (by decide) (nm_r (ln_fq y) ⟨n + 1, ly_234 hs H0 hy hT (fun i kk vv sz bg D post hi H P => ly_e3 hs H hy hT hi P) P⟩)))))
theorem ly_v8 (hs : d < 16) (H : ∀ e, e < d → ln_Ho e (T e) kk vv sz bg) (hy : y < d) (hT : T y = some (n, K, V)) (P : ∀ kk' vv' sz' bg', ln_Tb T d (ln_rs T 8 (nI y) a (pb d) gl) kk' vv' sz' bg' → post (hh, nn, hk, hv, ki, px, pa, pb, gn, gk, gv, sz', bg', kk', vv')) :
    wY_workOut_91 post (nI d) 8 (nI y) a 0 (nI d) hh nn hk hv ki px pa pb gn gk gv (upd sz d 0) bg kk vv := by
  rw [ln_rs_8 (by omega) hT] at P
  have H0 := ln_start H
  have di : vp_in (nI d) 16 := vp_in_nI (by omega) (by omega)
  unfold wY_workOut_91
  rw [nI_clamp (n := d) (by omega), lx_nar0]
  refine ⟨di, nm_e ⟨di, br_t pk_us ?_⟩⟩
  exact br_f (by decide) (br_f (by decide) (br_f (by decide) (br_f (by decide) (br_f (by decide) (nm_r (ln_fq y) ⟨n + 1, ly_234 hs H0 hy hT (fun i kk vv sz bg D post hi H P => ly_e8 hs H hy hT hi P) P⟩)))))
theorem ly_v11 (hs : d < 16) (H : ∀ e, e < d → ln_Ho e (T e) kk vv sz bg) (hy : y < d) (hT : T y = some (n, K, V)) (P : ∀ kk' vv' sz' bg', ln_Tb T d (ln_rs T 11 (nI y) a (pb d) gl) kk' vv' sz' bg' → post (hh, nn, hk, hv, ki, px, pa, pb, gn, gk, gv, sz', bg', kk', vv')) :
    wY_workOut_91 post (nI d) 11 (nI y) a 0 (nI d) hh nn hk hv ki px pa pb gn gk gv (upd sz d 0) bg kk vv := by
  rw [ln_rs_11 (by omega) hT] at P
  have H0 := ln_start H
  have di : vp_in (nI d) 16 := vp_in_nI (by omega) (by omega)
  unfold wY_workOut_91
  rw [nI_clamp (n := d) (by omega), lx_nar0]
  refine ⟨di, nm_e ⟨di, br_t pk_us ?_⟩⟩
  exact br_f (by decide) (br_f (by decide) (br_f (by decide) (br_f (by decide) (br_f (by decide) (nm_r (ln_fq y) ⟨n + 1, ly_234 hs H0 hy hT (fun i kk vv sz bg D post hi H P => ly_e11 hs H hy hT hi P) P⟩)))))
theorem ly_v4 {t : Nat} (ht : t ≤ 3) (hs : d < 16) (H : ∀ e, e < d → ln_Ho e (T e) kk vv sz bg) (hy : y < d) (hT : T y = some (n, K, V)) (P : ∀ kk' vv' sz' bg', ln_Tb T d (ln_rs T 4 (nI y) (nI t) (pb d) gl) kk' vv' sz' bg' → post (hh, nn, hk, hv, ki, px, pa, pb, gn, gk, gv, sz', bg', kk', vv')) :
    wY_workOut_91 post (nI d) 4 (nI y) (nI t) 0 (nI d) hh nn hk hv ki px pa pb gn gk gv (upd sz d 0) bg kk vv := by
  rw [ln_rs_4 ht (by omega) hT] at P
  have H0 := ln_start H
  have di : vp_in (nI d) 16 := vp_in_nI (by omega) (by omega)
  unfold wY_workOut_91
  rw [nI_clamp (n := d) (by omega), lx_nar0]
  refine ⟨di, nm_e ⟨di, br_t pk_us ?_⟩⟩
  exact br_f (by decide) (br_f (by decide) (br_f (by decide) (br_f (by decide) (br_f (by decide) (nm_r (ln_fq y) ⟨n + 1, ly_234 hs H0 hy hT (fun i kk vv sz bg D post hi H P => ly_e4 ht hs H hy hT hi P) P⟩)))))
theorem ly_v6 {t : Nat} (ht : t ≤ 3) (hs : d < 16) (H : ∀ e, e < d → ln_Ho e (T e) kk vv sz bg) (hy : y < d) (hT : T y = some (n, K, V)) (hG : ln_Gd (T y)) (P : ∀ kk' vv' sz' bg', ln_Tb T d (ln_rs T 6 (nI y) (nI t) (pb d) gl) kk' vv' sz' bg' → post (hh, nn, hk, hv, ki, px, pa, pb, gn, gk, gv, sz', bg', kk', vv')) :
    wY_workOut_91 post (nI d) 6 (nI y) (nI t) 0 (nI d) hh nn hk hv ki px pa pb gn gk gv (upd sz d 0) bg kk vv := by
  rw [ln_rs_6 (by omega) hT] at P
  have H0 := ln_start H
  have di : vp_in (nI d) 16 := vp_in_nI (by omega) (by omega)
  unfold wY_workOut_91
  rw [nI_clamp (n := d) (by omega), lx_nar0]
  refine ⟨di, nm_e ⟨di, br_t pk_us ?_⟩⟩
  exact br_f (by decide) (br_f (by decide) (br_t rfl (ly_group ht hs H0 hy hT hG P)))
theorem ly_v10 (hs : d < 16) (H : ∀ e, e < d → ln_Ho e (T e) kk vv sz bg) (hy : y < d) (hT : T y = some (n, K, V)) (hG : ln_Gd (T y)) (P : ∀ kk' vv' sz' bg', ln_Tb T d (ln_rs T 10 (nI y) a (pb d) gl) kk' vv' sz' bg' → post (hh, nn, hk, hv, ki, px, pa, pb, gn, gk, gv, sz', bg', kk', vv')) :
    wY_workOut_91 post (nI d) 10 (nI y) a 0 (nI d) hh nn hk hv ki px pa pb gn gk gv (upd sz d 0) bg kk vv := by
  rw [ln_rs_10 (by omega) hT] at P
  have H0 := ln_start H
  have di : vp_in (nI d) 16 := vp_in_nI (by omega) (by omega)
  unfold wY_workOut_91
  rw [nI_clamp (n := d) (by omega), lx_nar0]
  refine ⟨di, nm_e ⟨di, br_t pk_us ?_⟩⟩
  exact br_f (by decide) (br_f (by decide) (br_f (by decide) (br_f (by decide) (br_t rfl (ly_latest hs H0 hy hT hG P)))))
theorem ly_v5 {z m : Nat} {K' V' : Nat → Int32} (hs : d < 16) (H : ∀ e, e < d → ln_Ho e (T e) kk vv sz bg) (hy : y < d) (hT : T y = some (n, K, V)) (hz : z < d) (hU : T z = some (m, K', V')) (P : ∀ kk' vv' sz' bg', ln_Tb T d (ln_rs T 5 (nI y) (nI z) (pb d) gl) kk' vv' sz' bg' → post (hh, nn, hk, hv, ki, px, pa, pb, gn, gk, gv, sz', bg', kk', vv')) :
    wY_workOut_91 post (nI d) 5 (nI y) (nI z) 0 (nI d) hh nn hk hv ki px pa pb gn gk gv (upd sz d 0) bg kk vv := by
  rw [ln_rs_5 (by omega) hT (by omega) hU] at P
  have H0 := ln_start H
  have di : vp_in (nI d) 16 := vp_in_nI (by omega) (by omega)
  unfold wY_workOut_91
  rw [nI_clamp (n := d) (by omega), lx_nar0]
  refine ⟨di, nm_e ⟨di, br_t pk_us ?_⟩⟩
  exact br_f (by decide) (br_t rfl (ly_putAll hs H0 hy hT fun kk' vv' sz' bg' H' => ly_putAll hs H' hz hU P))
theorem ly_v7 {z m : Nat} {K' V' : Nat → Int32} (hs : d < 16) (H : ∀ e, e < d → ln_Ho e (T e) kk vv sz bg) (hy : y < d) (hT : T y = some (n, K, V)) (hz : z < d) (hU : T z = some (m, K', V')) (P : ∀ kk' vv' sz' bg', ln_Tb T d (ln_rs T 7 (nI y) (nI z) (pb d) gl) kk' vv' sz' bg' → post (hh, nn, hk, hv, ki, px, pa, pb, gn, gk, gv, sz', bg', kk', vv')) :
    wY_workOut_91 post (nI d) 7 (nI y) (nI z) 0 (nI d) hh nn hk hv ki px pa pb gn gk gv (upd sz d 0) bg kk vv := by
  rw [ln_rs_7 (by omega) hT (by omega) hU] at P
  have H0 := ln_start H
  have di : vp_in (nI d) 16 := vp_in_nI (by omega) (by omega)
  unfold wY_workOut_91
  rw [nI_clamp (n := d) (by omega), lx_nar0]
  refine ⟨di, nm_e ⟨di, br_t pk_us ?_⟩⟩
  exact br_f (by decide) (br_f (by decide) (br_f (by decide) (br_t rfl (ly_match hs H0 hy hT hz hU P))))
theorem ly_v9 {z m : Nat} {K' V' : Nat → Int32} (hs : d < 16) (H : ∀ e, e < d → ln_Ho e (T e) kk vv sz bg) (hy : y < d) (hT : T y = some (n, K, V)) (hz : z < d) (hU : T z = some (m, K', V')) (P : ∀ kk' vv' sz' bg', ln_Tb T d (ln_rs T 9 (nI y) (nI z) (pb d) gl) kk' vv' sz' bg' → post (hh, nn, hk, hv, ki, px, pa, pb, gn, gk, gv, sz', bg', kk', vv')) :
    wY_workOut_91 post (nI d) 9 (nI y) (nI z) 0 (nI d) hh nn hk hv ki px pa pb gn gk gv (upd sz d 0) bg kk vv := by
  rw [ln_rs_9 (by omega) hT (by omega) hU] at P
  have H0 := ln_start H
  have di : vp_in (nI d) 16 := vp_in_nI (by omega) (by omega)
  unfold wY_workOut_91
  rw [nI_clamp (n := d) (by omega), lx_nar0]
  refine ⟨di, nm_e ⟨di, br_t pk_us ?_⟩⟩
  exact br_f (by decide) (br_f (by decide) (br_f (by decide) (br_f (by decide) (br_f (by decide) (nm_r (ln_fq y) ⟨n + 1, ly_234 hs H0 hy hT (fun i kk vv sz bg D post hi H P => ly_e9 hs H hy hT hz hU hi P) P⟩)))))
theorem ly_v0 {x : Int32} {c : Nat} (hs : d < 16) (H : ∀ e, e < d → ln_Ho e (T e) kk vv sz bg) (hc : c ≤ 24) (hg : gn d = nI c) (P : ∀ kk' vv' sz' bg', ln_Tb T d (ln_rs T 0 x a (pb d) (ln_sq (fun i => [(gk (24 * d + i), gv (24 * d + i))]) c 0)) kk' vv' sz' bg' → post (hh, nn, hk, hv, ki, px, pa, pb, gn, gk, gv, sz', bg', kk', vv')) :
    wY_workOut_91 post (nI d) 0 x a 0 (nI d) hh nn hk hv ki px pa pb gn gk gv (upd sz d 0) bg kk vv := by
  have H0 := ln_start H
  have di : vp_in (nI d) 16 := vp_in_nI (by omega) (by omega)
  unfold wY_workOut_91
  rw [nI_clamp (n := d) (by omega), lx_nar0]
  refine ⟨di, nm_e ⟨di, br_t pk_us ?_⟩⟩
  exact br_t rfl (nm_r (ln_fr d) ⟨c + 1, ly_given hs hc hg H0 P⟩)
theorem ly_86 {o x : Int32} (hs : d < 16) (P : post (hh, nn, hk, hv, ki, px, pa, pb, gn, gk, gv, upd sz d 0, upd bg d 1, kk, vv)) :
    wY_workOut_86 post (nI d) o x a (nI d) hh nn hk hv ki px pa pb gn gk gv (upd sz d 0) bg kk vv := by
  have di : vp_in (nI d) 16 := vp_in_nI (by omega) (by omega)
  unfold wY_workOut_86 wY_workOut_91
  rw [nI_clamp (n := d) (by omega), lx_nar1]
  exact ⟨di, nm_e ⟨di, br_f (by rw [pk_us]; decide) P⟩⟩
/-- one set: it is big, or it is worked out -/
theorem ly_one {o : Int32} (ho : ¬ o ≤ 0) (hs : d < 16) (H : ∀ e, e < d → ln_Ho e (T e) kk vv sz bg) (hy : y < d)
    (Pn : T y = none → post (hh, nn, hk, hv, ki, px, pa, pb, gn, gk, gv, upd sz d 0, upd bg d 1, kk, vv))
    (Ps : ∀ n K V, T y = some (n, K, V) → wY_workOut_91 post (nI d) o (nI y) a 0 (nI d) hh nn hk hv ki px pa pb gn gk gv (upd sz d 0) bg kk vv) :
    wY_workOut_44 post (nI d) o (nI y) a 0 hh nn hk hv ki px pa pb gn gk gv sz bg kk vv := by
  have di : vp_in (nI d) 16 := vp_in_nI (by omega) (by omega)
  have yi : vp_in (nI y) 16 := vp_in_nI (by omega) (by omega)
  have h := H y hy
  unfold wY_workOut_44
  rw [nI_clamp (n := d) (by omega), nI_clamp (n := y) (by omega)]
  refine ⟨di, nm_e (br_f ho ⟨yi, ?_⟩)⟩
  match e : T y with
  | none =>
    rw [e] at h
    have h1 : bg y = 1 := h
    exact br_f (by rw [h1]; decide) (ly_86 hs (Pn e))
  | some (n, K, V) =>
    rw [e] at h
    exact br_t h.1 (br_t rfl (Ps n K V e))
/-- two sets -/
theorem ly_two {o : Int32} {z : Nat} (ho : ¬ o ≤ 0) (hs : d < 16) (H : ∀ e, e < d → ln_Ho e (T e) kk vv sz bg) (hy : y < d) (hz : z < d)
    (Pn : T y = none → post (hh, nn, hk, hv, ki, px, pa, pb, gn, gk, gv, upd sz d 0, upd bg d 1, kk, vv))
    (Pm : ∀ n K V, T y = some (n, K, V) → T z = none → post (hh, nn, hk, hv, ki, px, pa, pb, gn, gk, gv, upd sz d 0, upd bg d 1, kk, vv))
    (Ps : ∀ n K V m K' V', T y = some (n, K, V) → T z = some (m, K', V') → wY_workOut_91 post (nI d) o (nI y) (nI z) 0 (nI d) hh nn hk hv ki px pa pb gn gk gv (upd sz d 0) bg kk vv) :
    wY_workOut_39 post (nI d) o (nI y) (nI z) hh nn hk hv ki px pa pb gn gk gv sz bg kk vv := by
  have di : vp_in (nI d) 16 := vp_in_nI (by omega) (by omega)
  have yi : vp_in (nI y) 16 := vp_in_nI (by omega) (by omega)
  have zi : vp_in (nI z) 16 := vp_in_nI (by omega) (by omega)
  have h := H y hy
  have h2 := H z hz
  unfold wY_workOut_39 wY_workOut_44
  rw [nI_clamp (n := d) (by omega), nI_clamp (n := y) (by omega)]
  refine ⟨di, nm_e (br_f ho ⟨yi, ?_⟩)⟩
  match e : T y with
  | none =>
    rw [e] at h
    have h1 : bg y = 1 := h
    exact br_f (by rw [h1]; decide) (ly_86 hs (Pn e))
  | some (n, K, V) =>
    rw [e] at h
    refine br_t h.1 (br_f (by decide) ⟨zi, ?_⟩)
    rw [nI_clamp (n := z) (by omega)]
    match e2 : T z with
    | none =>
      rw [e2] at h2
      have h1 : bg z = 1 := h2
      exact br_f (by rw [h1]; decide) (ly_86 hs (Pm n K V e e2))
    | some (m, K', V') =>
      rw [e2] at h2
      exact br_t h2.1 (Ps n K V m K' V' e e2)
end
/-- a recipe that may stand at place s -/
def ln_Ok (s : Nat) (o x a : Int32) : Prop :=
  o = 0 ∨ (∃ y, y < s ∧ x = nI y ∧ ((o = 1 ∨ o = 2 ∨ o = 3 ∨ o = 8 ∨ o = 10 ∨ o = 11) ∨ ((o = 4 ∨ o = 6) ∧ ∃ t, t ≤ 3 ∧ a = nI t) ∨ ((o = 5 ∨ o = 7 ∨ o = 9) ∧ ∃ z, z < s ∧ a = nI z)))
theorem ly_wo {T : Nat → ln_D} {d c : Nat} {kk vv sz bg hk hv ki px pa pb gn gk gv : Nat → Int32} {hh nn : Int32} {post : SY → Prop} (hs : d < 16) (H : ∀ e, e < d → ln_Ho e (T e) kk vv sz bg) (hG : ∀ e, e < d → ln_Gd (T e)) (ok : ln_Ok d (ki d) (px d) (pa d)) (hc : c ≤ 24) (hg : gn d = nI c)
    (P : ∀ kk' vv' sz' bg', (∀ e, e < d → ln_Ho e (T e) kk' vv' sz' bg') → ln_Ho d (ln_rs T (ki d) (px d) (pa d) (pb d) (ln_sq (fun i => [(gk (24 * d + i), gv (24 * d + i))]) c 0)) kk' vv' sz' bg' → post (hh, nn, hk, hv, ki, px, pa, pb, gn, gk, gv, sz', bg', kk', vv')) :
    wpY_workOut post (hh, nn, hk, hv, ki, px, pa, pb, gn, gk, gv, sz, bg, kk, vv) (nI d) := by
  have di : vp_in (nI d) 16 := vp_in_nI (by omega) (by omega)
  unfold wpY_workOut
  dsimp only
  rw [nI_clamp (n := d) (by omega)]
  refine ⟨di, nm_e ⟨di, nm_e ⟨di, nm_e ?_⟩⟩⟩
  generalize ki d = o at *
  generalize px d = x at *
  generalize pa d = a at *
  have P1 : ∀ kk' vv' sz' bg', ln_Tb T d (ln_rs T o x a (pb d) (ln_sq (fun i => [(gk (24 * d + i), gv (24 * d + i))]) c 0)) kk' vv' sz' bg' → post (hh, nn, hk, hv, ki, px, pa, pb, gn, gk, gv, sz', bg', kk', vv') := fun kk' vv' sz' bg' H' => P kk' vv' sz' bg' H'.1 (ln_Bu_Ho H'.2)
  have P2 : ln_rs T o x a (pb d) (ln_sq (fun i => [(gk (24 * d + i), gv (24 * d + i))]) c 0) = none → post (hh, nn, hk, hv, ki, px, pa, pb, gn, gk, gv, upd sz d 0, upd bg d 1, kk, vv) := by
    intro e
    have s := ln_startb (z := 0) H
    exact P _ _ _ _ s.1 (by rw [e]; exact s.2)
  rcases ok with rfl | ⟨y, hy, rfl, ((rfl | rfl | rfl | rfl | rfl | rfl) | ⟨(rfl | rfl), t, ht, rfl⟩ | ⟨(rfl | rfl | rfl), z, hz, rfl⟩)⟩
  · refine br_f (by decide) (br_f (by decide) (br_f (by decide) ⟨di, ?_⟩))
    rw [nI_clamp (n := d) (by omega)]
    exact nm_e (br_t (by decide) (br_t rfl (ly_v0 hs H hc hg P1)))
  · exact br_f (by decide) (br_f (by decide) (br_f (by decide) (ly_one (by decide) hs H hy (fun e => P2 (ln_rs_x (by decide) (by omega) e)) fun n K V e => ly_v1 hs H hy e P1)))
  · exact br_f (by decide) (br_f (by decide) (br_f (by decide) (ly_one (by decide) hs H hy (fun e => P2 (ln_rs_x (by decide) (by omega) e)) fun n K V e => ly_v2 hs H hy e P1)))
  · exact br_f (by decide) (br_f (by decide) (br_f (by decide) (ly_one (by decide) hs H hy (fun e => P2 (ln_rs_x (by decide) (by omega) e)) fun n K V e => ly_v3 hs H hy e P1)))
  · exact br_f (by decide) (br_f (by decide) (br_f (by decide) (ly_one (by decide) hs H hy (fun e => P2 (ln_rs_x (by decide) (by omega) e)) fun n K V e => ly_v8 hs H hy e P1)))
  · exact br_f (by decide) (br_f (by decide) (br_f (by decide) (ly_one (by decide) hs H hy (fun e => P2 (ln_rs_x (by decide) (by omega) e)) fun n K V e => ly_v10 hs H hy e (hG y hy) P1)))
  · exact br_f (by decide) (br_f (by decide) (br_f (by decide) (ly_one (by decide) hs H hy (fun e => P2 (ln_rs_x (by decide) (by omega) e)) fun n K V e => ly_v11 hs H hy e P1)))
  · exact br_f (by decide) (br_f (by decide) (br_f (by decide) (ly_one (by decide) hs H hy (fun e => P2 (ln_rs_x (by decide) (by omega) e)) fun n K V e => ly_v4 ht hs H hy e P1)))
  · exact br_f (by decide) (br_f (by decide) (br_f (by decide) (ly_one (by decide) hs H hy (fun e => P2 (ln_rs_x (by decide) (by omega) e)) fun n K V e => ly_v6 ht hs H hy e (hG y hy) P1)))
  · exact br_t rfl (ly_two (by decide) hs H hy hz (fun e => P2 (ln_rs_x (by decide) (by omega) e)) (fun n K V e e2 => P2 (ln_rs_a (by decide) (by omega) e (by omega) e2)) fun n K V m K' V' e e2 => ly_v5 hs H hy e hz e2 P1)
  · exact br_f (by decide) (br_t rfl (ly_two (by decide) hs H hy hz (fun e => P2 (ln_rs_x (by decide) (by omega) e)) (fun n K V e e2 => P2 (ln_rs_a (by decide) (by omega) e (by omega) e2)) fun n K V m K' V' e e2 => ly_v7 hs H hy e hz e2 P1))
  · exact br_f (by decide) (br_f (by decide) (br_t rfl (ly_two (by decide) hs H hy hz (fun e => P2 (ln_rs_x (by decide) (by omega) e)) (fun n K V e e2 => P2 (ln_rs_a (by decide) (by omega) e (by omega) e2)) fun n K V m K' V' e e2 => ly_v9 hs H hy e hz e2 P1)))
/-- data set e stands in the picture T as its recipe says -/
def ln_Rc (T : Nat → ln_D) (e : Nat) (ki px pa pb gn gk gv : Nat → Int32) : Prop :=
  ln_Ok e (ki e) (px e) (pa e) ∧ ln_Gd (T e) ∧ ∃ c, c ≤ 24 ∧ gn e = nI c ∧ T e = ln_rs T (ki e) (px e) (pa e) (pb e) (ln_sq (fun i => [(gk (24 * e + i), gv (24 * e + i))]) c 0)
theorem ly_ask_l {T : Nat → ln_D} {d s : Nat} {hk hv ki px pa pb gn gk gv : Nat → Int32} {hh nn : Int32} {post : Int32 → SY → Prop} (hs : s ≤ 16) (hd : d < s) (R : ∀ e, e < s → ln_Rc T e ki px pa pb gn gk gv)
    (P : ∀ kk' vv' sz' bg', (∀ e, e < d + 1 → ln_Ho e (T e) kk' vv' sz' bg') → (T d = none → post 0 (hh, nn, hk, hv, ki, px, pa, pb, gn, gk, gv, sz', bg', kk', vv')) ∧ (∀ n K V, T d = some (n, K, V) → post 1 (hh, nn, hk, hv, ki, px, pa, pb, gn, gk, gv, sz', bg', kk', vv'))) :
    ∀ l e kk vv sz bg, e + l = d + 1 → (∀ e', e' < e → ln_Ho e' (T e') kk vv sz bg) → wY_ask_12 post (nI d) (l + 1) (nI e) hh nn hk hv ki px pa pb gn gk gv sz bg kk vv := by
  have di : vp_in (nI d) 16 := vp_in_nI (by omega) (by omega)
  intro l
  induction l with
  | zero =>
    intro e kk vv sz bg he H
    have : e = d + 1 := by omega
    subst this
    refine br_t (nI_lt (by omega) (by omega)) ⟨di, ?_⟩
    rw [nI_clamp (n := d) (by omega)]
    have h := H d (by omega)
    have p := P kk vv sz bg H
    match e : T d with
    | none =>
      rw [e] at h
      have h1 : bg d = 1 := h
      exact br_f (by rw [h1]; decide) (p.1 e)
    | some (n, K, V) =>
      rw [e] at h
      exact br_t h.1 (p.2 n K V e)
  | succ l ih =>
    intro e kk vv sz bg he H
    obtain ⟨ok, _, c, hc, hg, hT⟩ := R e (by omega)
    refine br_f (nI_nlt (by omega) (by omega)) (ly_wo (by omega) H (fun e' he' => (R e' (by omega)).2.1) ok hc hg fun kk' vv' sz' bg' H1 H2 => nm_r (nI_1 e) (ih (e + 1) _ _ _ _ (by omega) fun e' he' => ?_))
    by_cases z : e' = e
    · subst z
      rw [hT]
      exact H2
    · exact H1 e' (by omega)
theorem ly_ask {T : Nat → ln_D} {d s : Nat} {kk vv sz bg hk hv ki px pa pb gn gk gv : Nat → Int32} {hh : Int32} {post : Int32 → SY → Prop} (hs : s ≤ 16) (hd : d < s) (R : ∀ e, e < s → ln_Rc T e ki px pa pb gn gk gv)
    (P : ∀ kk' vv' sz' bg', (∀ e, e < d + 1 → ln_Ho e (T e) kk' vv' sz' bg') → (T d = none → post 0 (hh, nI s, hk, hv, ki, px, pa, pb, gn, gk, gv, sz', bg', kk', vv')) ∧ (∀ n K V, T d = some (n, K, V) → post 1 (hh, nI s, hk, hv, ki, px, pa, pb, gn, gk, gv, sz', bg', kk', vv'))) :
    wpY_ask post (hh, nI s, hk, hv, ki, px, pa, pb, gn, gk, gv, sz, bg, kk, vv) (nI d) := by
  unfold wpY_ask
  dsimp only
  unfold wpY_isSet
  dsimp only
  exact br_f (nI_pos (by omega)) (br_f (nI_ge hd (by omega)) (br_f (by decide) ⟨d + 1 + 1, ly_ask_l hs hd R P (d + 1) 0 kk vv sz bg (by omega) (fun e he => absurd he (by omega))⟩))
theorem ly_ask0 {d s : Int32} {kk vv sz bg hk hv ki px pa pb gn gk gv : Nat → Int32} {hh : Int32} {post : Int32 → SY → Prop} (hd : d < 0 ∨ s ≤ d)
    (P : post 0 (hh, s, hk, hv, ki, px, pa, pb, gn, gk, gv, sz, bg, kk, vv)) : wpY_ask post (hh, s, hk, hv, ki, px, pa, pb, gn, gk, gv, sz, bg, kk, vv) d := by
  unfold wpY_ask
  dsimp only
  unfold wpY_isSet
  dsimp only
  rcases hd with h | h
  · exact br_t h (br_t rfl P)
  · exact br_c (fun _ => br_t rfl P) fun _ => br_t h (br_t rfl P)
end
section
theorem lz_nb0 : narrow .boolean (.int 0) = .int 0 := by decide
theorem lz_nb1 : narrow .boolean (.int 1) = .int 1 := by decide
section
variable {s : Nat} {kk vv sz bg hk hv ki px pa pb gn gk gv : Nat → Int32} {h nn hh x : Int32} {post : Int32 → Prop}
theorem lx_set0 (hd : x < 0 ∨ nI s ≤ x) (P : post 0) : wpX_isSet post (h, nI s, hk, hv, kk, vv, sz, bg) x := by
  rcases hd with z | z
  · exact br_t z P
  · exact br_c (fun _ => P) fun _ => br_t z P
theorem lx_set1 {d : Nat} (hs : s ≤ 16) (hd : d < s) (P : post 1) : wpX_isSet post (h, nI s, hk, hv, kk, vv, sz, bg) (nI d) :=
  br_f (nI_pos (by omega)) (br_f (nI_ge hd (by omega)) P)
theorem ly_set0 (hd : x < 0 ∨ nI s ≤ x) (P : post 0) : wpY_isSet post (hh, nI s, hk, hv, ki, px, pa, pb, gn, gk, gv, sz, bg, kk, vv) x := by
  rcases hd with z | z
  · exact br_t z P
  · exact br_c (fun _ => P) fun _ => br_t z P
theorem ly_set1 {d : Nat} (hs : s ≤ 16) (hd : d < s) (P : post 1) : wpY_isSet post (hh, nI s, hk, hv, ki, px, pa, pb, gn, gk, gv, sz, bg, kk, vv) (nI d) :=
  br_f (nI_pos (by omega)) (br_f (nI_ge hd (by omega)) P)
end
theorem lz_ix (x : Int32) {n : Nat} (hn : n < 2 ^ 31) : (x < 0 ∨ nI n ≤ x) ∨ ∃ j : Nat, j < n ∧ x = nI j := by
  rcases pk_ix x hn with z | z | z
  · exact Or.inl (Or.inl z)
  · exact Or.inl (Or.inr z)
  · exact Or.inr z
theorem lz_rng (a lo hi : Int32) (n : Nat) (hl : 0 ≤ lo) (hh : hi = nI n) (hn : n < 2 ^ 31) : (∀ post : Int32 → Prop, post 0 → (a < lo → post 0) ∧ (¬ a < lo → ((hi < a → post 0) ∧ (¬ hi < a → post 1)))) ∨
    ((∃ t, t ≤ n ∧ a = nI t) ∧ ∀ post : Int32 → Prop, post 1 → (a < lo → post 0) ∧ (¬ a < lo → ((hi < a → post 0) ∧ (¬ hi < a → post 1)))) := by
  by_cases c1 : a < lo
  · exact Or.inl fun post P => br_t c1 P
  · by_cases c2 : hi < a
    · exact Or.inl fun post P => br_f c1 (br_t c2 P)
    · refine Or.inr ⟨?_, fun post P => br_f c1 (br_f c2 P)⟩
      have c3 : ¬ a < 0 := fun z => c1 (by
        rw [Int32.lt_iff_toInt_lt] at z ⊢
        rw [Int32.le_iff_toInt_le] at hl
        omega)
      obtain ⟨t, ht, rfl⟩ := nI_of c3
      refine ⟨t, ?_, rfl⟩
      by_cases c4 : t ≤ n
      · exact c4
      · exact absurd (by rw [hh]; exact nI_lt (by omega) ht) c2
section
variable {s : Nat} {kk vv sz bg hk hv ki px pa pb gn gk gv sz2 bg2 kk2 vv2 : Nat → Int32} {h hh : Int32}
theorem lz_fit (hs : s ≤ 16) (o x a : Int32) : ∃ r : Int32, (r = 0 ∨ (r = 1 ∧ ln_Ok s o x a)) ∧ (∀ post : Int32 → Prop, post r → wpX_operandsFit post (h, nI s, hk, hv, kk, vv, sz, bg) o x a) ∧
    (∀ post : Int32 → Prop, post r → wpY_fits post (hh, nI s, hk, hv, ki, px, pa, pb, gn, gk, gv, sz2, bg2, kk2, vv2) o x a) := by
  unfold wpX_operandsFit wpY_fits
  dsimp only
  by_cases c1 : o < 0
  · refine ⟨0, Or.inl rfl, fun post P => br_f ?_ (br_t c1 P), fun post P => br_t c1 (br_t rfl P)⟩
    rintro rfl
    exact absurd c1 (by decide)
  · by_cases c2 : 11 < o
    · refine ⟨0, Or.inl rfl, fun post P => br_f ?_ (br_f c1 (br_t c2 P)), fun post P => br_f c1 (br_t c2 (br_t rfl P))⟩
      rintro rfl
      exact absurd c2 (by decide)
    · obtain ⟨oo, ho, rfl⟩ := nI_of c1
      have ho2 : oo ≤ 11 := by
        by_cases c3 : oo ≤ 11
        · exact c3
        · exact absurd (nI_lt (a := 11) (by omega) ho) c2
      match oo, ho2 with
      | 0, _ => exact ⟨1, Or.inr ⟨rfl, Or.inl rfl⟩, fun post P => br_t rfl P, fun post P => br_f (by decide) (br_f (by decide) (br_f (by decide) (br_t (by decide) (br_f (by decide) (br_f (by decide) (br_f (by decide) (br_f (by decide) (br_f (by decide) (br_f (by decide) P)))))))))⟩
      | 1, _ =>
        rcases lz_ix x (n := s) (by omega) with z | ⟨y, hy, rfl⟩
        · exact ⟨0, Or.inl rfl, fun post P => br_f (by decide) (br_f (by decide) (br_f (by decide) (lx_set0 z (br_t rfl P)))), fun post P => br_f (by decide) (br_f (by decide) (br_f (by decide) (br_f (by decide) (ly_set0 z (br_t rfl P)))))⟩
        · exact ⟨1, Or.inr ⟨rfl, Or.inr ⟨y, hy, rfl, Or.inl (Or.inl rfl)⟩⟩, fun post P => br_f (by decide) (br_f (by decide) (br_f (by decide) (lx_set1 hs hy (br_f (by decide) (br_f (by decide) (br_f (by decide) (br_f (by decide) (br_t rfl (br_f (by decide) (br_f (by decide) (br_f (by decide) (P)))))))))))), fun post P => br_f (by decide) (br_f (by decide) (br_f (by decide) (br_f (by decide) (ly_set1 hs hy (br_f (by decide) (br_f (by decide) (br_f (by decide) (br_f (by decide) (br_f (by decide) (br_f (by decide) (br_f (by decide) (P))))))))))))⟩
      | 2, _ =>
        rcases lz_ix x (n := s) (by omega) with z | ⟨y, hy, rfl⟩
        · exact ⟨0, Or.inl rfl, fun post P => br_f (by decide) (br_f (by decide) (br_f (by decide) (lx_set0 z (br_t rfl P)))), fun post P => br_f (by decide) (br_f (by decide) (br_f (by decide) (br_f (by decide) (ly_set0 z (br_t rfl P)))))⟩
        · exact ⟨1, Or.inr ⟨rfl, Or.inr ⟨y, hy, rfl, Or.inl (Or.inr (Or.inl rfl))⟩⟩, fun post P => br_f (by decide) (br_f (by decide) (br_f (by decide) (lx_set1 hs hy (br_f (by decide) (br_f (by decide) (br_f (by decide) (br_f (by decide) (br_t rfl (br_f (by decide) (br_f (by decide) (br_f (by decide) (P)))))))))))), fun post P => br_f (by decide) (br_f (by decide) (br_f (by decide) (br_f (by decide) (ly_set1 hs hy (br_f (by decide) (br_f (by decide) (br_f (by decide) (br_f (by decide) (br_f (by decide) (br_f (by decide) (br_f (by decide) (P))))))))))))⟩
      | 3, _ =>
        rcases lz_ix x (n := s) (by omega) with z | ⟨y, hy, rfl⟩
        · exact ⟨0, Or.inl rfl, fun post P => br_f (by decide) (br_f (by decide) (br_f (by decide) (lx_set0 z (br_t rfl P)))), fun post P => br_f (by decide) (br_f (by decide) (br_f (by decide) (br_f (by decide) (ly_set0 z (br_t rfl P)))))⟩
        · exact ⟨1, Or.inr ⟨rfl, Or.inr ⟨y, hy, rfl, Or.inl (Or.inr (Or.inr (Or.inl rfl)))⟩⟩, fun post P => br_f (by decide) (br_f (by decide) (br_f (by decide) (lx_set1 hs hy (br_f (by decide) (br_f (by decide) (br_f (by decide) (br_f (by decide) (br_t rfl (br_f (by decide) (br_f (by decide) (br_f (by decide) (P)))))))))))), fun post P => br_f (by decide) (br_f (by decide) (br_f (by decide) (br_f (by decide) (ly_set1 hs hy (br_f (by decide) (br_f (by decide) (br_f (by decide) (br_f (by decide) (br_f (by decide) (br_f (by decide) (br_f (by decide) (P))))))))))))⟩
      | 4, _ =>
        rcases lz_ix x (n := s) (by omega) with z | ⟨y, hy, rfl⟩
        · exact ⟨0, Or.inl rfl, fun post P => br_f (by decide) (br_f (by decide) (br_f (by decide) (lx_set0 z (br_t rfl P)))), fun post P => br_f (by decide) (br_f (by decide) (br_f (by decide) (br_f (by decide) (ly_set0 z (br_t rfl P)))))⟩
        · rcases lz_rng a 0 3 3 (by decide) rfl (by omega) with z | ⟨ht, z⟩
          · exact ⟨0, Or.inl rfl, fun post P => br_f (by decide) (br_f (by decide) (br_f (by decide) (lx_set1 hs hy (br_f (by decide) (br_f (by decide) (br_f (by decide) (br_f (by decide) (br_t rfl (br_t rfl (z post P)))))))))), fun post P => br_f (by decide) (br_f (by decide) (br_f (by decide) (br_f (by decide) (ly_set1 hs hy (br_f (by decide) (br_f (by decide) (br_f (by decide) (br_f (by decide) (br_t rfl (z (fun r => narrow .boolean (.int r) = .int r ∧ post r) ⟨lz_nb0, P⟩))))))))))⟩
          · exact ⟨1, Or.inr ⟨rfl, Or.inr ⟨y, hy, rfl, Or.inr (Or.inl ⟨Or.inl rfl, ht⟩)⟩⟩, fun post P => br_f (by decide) (br_f (by decide) (br_f (by decide) (lx_set1 hs hy (br_f (by decide) (br_f (by decide) (br_f (by decide) (br_f (by decide) (br_t rfl (br_t rfl (z post P)))))))))), fun post P => br_f (by decide) (br_f (by decide) (br_f (by decide) (br_f (by decide) (ly_set1 hs hy (br_f (by decide) (br_f (by decide) (br_f (by decide) (br_f (by decide) (br_t rfl (z (fun r => narrow .boolean (.int r) = .int r ∧ post r) ⟨lz_nb1, P⟩))))))))))⟩
      | 5, _ =>
        rcases lz_ix x (n := s) (by omega) with z | ⟨y, hy, rfl⟩
        · exact ⟨0, Or.inl rfl, fun post P => br_f (by decide) (br_f (by decide) (br_f (by decide) (lx_set0 z (br_t rfl P)))), fun post P => br_f (by decide) (br_f (by decide) (br_f (by decide) (br_f (by decide) (ly_set0 z (br_t rfl P)))))⟩
        · rcases lz_ix a (n := s) (by omega) with z | ⟨z, hz, rfl⟩
          · exact ⟨0, Or.inl rfl, fun post P => br_f (by decide) (br_f (by decide) (br_f (by decide) (lx_set1 hs hy (br_f (by decide) (br_t rfl (br_f (by decide) (lx_set0 z ⟨lz_nb0, P⟩))))))), fun post P => br_f (by decide) (br_f (by decide) (br_f (by decide) (br_f (by decide) (ly_set1 hs hy (br_f (by decide) (br_t rfl (ly_set0 z ⟨lz_nb0, P⟩)))))))⟩
          · exact ⟨1, Or.inr ⟨rfl, Or.inr ⟨y, hy, rfl, Or.inr (Or.inr ⟨Or.inl rfl, z, hz, rfl⟩)⟩⟩, fun post P => br_f (by decide) (br_f (by decide) (br_f (by decide) (lx_set1 hs hy (br_f (by decide) (br_t rfl (br_f (by decide) (lx_set1 hs hz ⟨lz_nb1, P⟩))))))), fun post P => br_f (by decide) (br_f (by decide) (br_f (by decide) (br_f (by decide) (ly_set1 hs hy (br_f (by decide) (br_t rfl (ly_set1 hs hz ⟨lz_nb1, P⟩)))))))⟩
      | 6, _ =>
        rcases lz_ix x (n := s) (by omega) with z | ⟨y, hy, rfl⟩
        · exact ⟨0, Or.inl rfl, fun post P => br_f (by decide) (br_f (by decide) (br_f (by decide) (lx_set0 z (br_t rfl P)))), fun post P => br_f (by decide) (br_f (by decide) (br_f (by decide) (br_f (by decide) (ly_set0 z (br_t rfl P)))))⟩
        · rcases lz_rng a 0 3 3 (by decide) rfl (by omega) with z | ⟨ht, z⟩
          · exact ⟨0, Or.inl rfl, fun post P => br_f (by decide) (br_f (by decide) (br_f (by decide) (lx_set1 hs hy (br_f (by decide) (br_f (by decide) (br_f (by decide) (br_f (by decide) (br_t rfl (br_f (by decide) (br_t rfl (z post P))))))))))), fun post P => br_f (by decide) (br_f (by decide) (br_f (by decide) (br_f (by decide) (ly_set1 hs hy (br_f (by decide) (br_f (by decide) (br_f (by decide) (br_f (by decide) (br_f (by decide) (br_t rfl (z (fun r => narrow .boolean (.int r) = .int r ∧ post r) ⟨lz_nb0, P⟩)))))))))))⟩
          · exact ⟨1, Or.inr ⟨rfl, Or.inr ⟨y, hy, rfl, Or.inr (Or.inl ⟨Or.inr rfl, ht⟩)⟩⟩, fun post P => br_f (by decide) (br_f (by decide) (br_f (by decide) (lx_set1 hs hy (br_f (by decide) (br_f (by decide) (br_f (by decide) (br_f (by decide) (br_t rfl (br_f (by decide) (br_t rfl (z post P))))))))))), fun post P => br_f (by decide) (br_f (by decide) (br_f (by decide) (br_f (by decide) (ly_set1 hs hy (br_f (by decide) (br_f (by decide) (br_f (by decide) (br_f (by decide) (br_f (by decide) (br_t rfl (z (fun r => narrow .boolean (.int r) = .int r ∧ post r) ⟨lz_nb1, P⟩)))))))))))⟩
      | 7, _ =>
        rcases lz_ix x (n := s) (by omega) with z | ⟨y, hy, rfl⟩
        · exact ⟨0, Or.inl rfl, fun post P => br_f (by decide) (br_f (by decide) (br_f (by decide) (lx_set0 z (br_t rfl P)))), fun post P => br_f (by decide) (br_f (by decide) (br_f (by decide) (br_f (by decide) (ly_set0 z (br_t rfl P)))))⟩
        · rcases lz_ix a (n := s) (by omega) with z | ⟨z, hz, rfl⟩
          · exact ⟨0, Or.inl rfl, fun post P => br_f (by decide) (br_f (by decide) (br_f (by decide) (lx_set1 hs hy (br_f (by decide) (br_f (by decide) (br_t rfl (br_f (by decide) (lx_set0 z ⟨lz_nb0, P⟩)))))))), fun post P => br_f (by decide) (br_f (by decide) (br_f (by decide) (br_f (by decide) (ly_set1 hs hy (br_f (by decide) (br_f (by decide) (br_t rfl (ly_set0 z ⟨lz_nb0, P⟩))))))))⟩
          · exact ⟨1, Or.inr ⟨rfl, Or.inr ⟨y, hy, rfl, Or.inr (Or.inr ⟨Or.inr (Or.inl rfl), z, hz, rfl⟩)⟩⟩, fun post P => br_f (by decide) (br_f (by decide) (br_f (by decide) (lx_set1 hs hy (br_f (by decide) (br_f (by decide) (br_t rfl (br_f (by decide) (lx_set1 hs hz ⟨lz_nb1, P⟩)))))))), fun post P => br_f (by decide) (br_f (by decide) (br_f (by decide) (br_f (by decide) (ly_set1 hs hy (br_f (by decide) (br_f (by decide) (br_t rfl (ly_set1 hs hz ⟨lz_nb1, P⟩))))))))⟩
      | 8, _ =>
        rcases lz_ix x (n := s) (by omega) with z | ⟨y, hy, rfl⟩
        · exact ⟨0, Or.inl rfl, fun post P => br_f (by decide) (br_f (by decide) (br_f (by decide) (lx_set0 z (br_t rfl P)))), fun post P => br_f (by decide) (br_f (by decide) (br_f (by decide) (br_f (by decide) (ly_set0 z (br_t rfl P)))))⟩
        · exact ⟨1, Or.inr ⟨rfl, Or.inr ⟨y, hy, rfl, Or.inl (Or.inr (Or.inr (Or.inr (Or.inl rfl))))⟩⟩, fun post P => br_f (by decide) (br_f (by decide) (br_f (by decide) (lx_set1 hs hy (br_f (by decide) (br_f (by decide) (br_f (by decide) (br_f (by decide) (br_t rfl (br_f (by decide) (br_f (by decide) (br_f (by decide) (P)))))))))))), fun post P => br_f (by decide) (br_f (by decide) (br_f (by decide) (br_f (by decide) (ly_set1 hs hy (br_f (by decide) (br_f (by decide) (br_f (by decide) (br_f (by decide) (br_f (by decide) (br_f (by decide) (br_f (by decide) (P))))))))))))⟩
      | 9, _ =>
        rcases lz_ix x (n := s) (by omega) with z | ⟨y, hy, rfl⟩
        · exact ⟨0, Or.inl rfl, fun post P => br_f (by decide) (br_f (by decide) (br_f (by decide) (lx_set0 z (br_t rfl P)))), fun post P => br_f (by decide) (br_f (by decide) (br_f (by decide) (br_f (by decide) (ly_set0 z (br_t rfl P)))))⟩
        · rcases lz_ix a (n := s) (by omega) with z | ⟨z, hz, rfl⟩
          · exact ⟨0, Or.inl rfl, fun post P => br_f (by decide) (br_f (by decide) (br_f (by decide) (lx_set1 hs hy (br_f (by decide) (br_f (by decide) (br_f (by decide) (br_t rfl (br_f (by decide) (lx_set0 z ⟨lz_nb0, P⟩))))))))), fun post P => br_f (by decide) (br_f (by decide) (br_f (by decide) (br_f (by decide) (ly_set1 hs hy (br_f (by decide) (br_f (by decide) (br_f (by decide) (br_t rfl (ly_set0 z ⟨lz_nb0, P⟩)))))))))⟩
          · exact ⟨1, Or.inr ⟨rfl, Or.inr ⟨y, hy, rfl, Or.inr (Or.inr ⟨Or.inr (Or.inr rfl), z, hz, rfl⟩)⟩⟩, fun post P => br_f (by decide) (br_f (by decide) (br_f (by decide) (lx_set1 hs hy (br_f (by decide) (br_f (by decide) (br_f (by decide) (br_t rfl (br_f (by decide) (lx_set1 hs hz ⟨lz_nb1, P⟩))))))))), fun post P => br_f (by decide) (br_f (by decide) (br_f (by decide) (br_f (by decide) (ly_set1 hs hy (br_f (by decide) (br_f (by decide) (br_f (by decide) (br_t rfl (ly_set1 hs hz ⟨lz_nb1, P⟩)))))))))⟩
      | 10, _ =>
        rcases lz_ix x (n := s) (by omega) with z | ⟨y, hy, rfl⟩
        · exact ⟨0, Or.inl rfl, fun post P => br_f (by decide) (br_f (by decide) (br_f (by decide) (lx_set0 z (br_t rfl P)))), fun post P => br_f (by decide) (br_f (by decide) (br_f (by decide) (br_f (by decide) (ly_set0 z (br_t rfl P)))))⟩
        · rcases lz_rng a 1 8 8 (by decide) rfl (by omega) with z | ⟨ht, z⟩
          · exact ⟨0, Or.inl rfl, fun post P => br_f (by decide) (br_f (by decide) (br_f (by decide) (lx_set1 hs hy (br_f (by decide) (br_f (by decide) (br_f (by decide) (br_f (by decide) (br_t rfl (br_f (by decide) (br_f (by decide) (br_t rfl (z post P)))))))))))), fun post P => br_f (by decide) (br_f (by decide) (br_f (by decide) (br_f (by decide) (ly_set1 hs hy (br_f (by decide) (br_f (by decide) (br_f (by decide) (br_f (by decide) (br_f (by decide) (br_f (by decide) (br_t rfl (z (fun r => (r = 0 → post 0) ∧ (¬ r = 0 → post 1)) (br_t rfl P)))))))))))))⟩
          · exact ⟨1, Or.inr ⟨rfl, Or.inr ⟨y, hy, rfl, Or.inl (Or.inr (Or.inr (Or.inr (Or.inr (Or.inl rfl)))))⟩⟩, fun post P => br_f (by decide) (br_f (by decide) (br_f (by decide) (lx_set1 hs hy (br_f (by decide) (br_f (by decide) (br_f (by decide) (br_f (by decide) (br_t rfl (br_f (by decide) (br_f (by decide) (br_t rfl (z post P)))))))))))), fun post P => br_f (by decide) (br_f (by decide) (br_f (by decide) (br_f (by decide) (ly_set1 hs hy (br_f (by decide) (br_f (by decide) (br_f (by decide) (br_f (by decide) (br_f (by decide) (br_f (by decide) (br_t rfl (z (fun r => (r = 0 → post 0) ∧ (¬ r = 0 → post 1)) (br_f (by decide) P)))))))))))))⟩
      | 11, _ =>
        rcases lz_ix x (n := s) (by omega) with z | ⟨y, hy, rfl⟩
        · exact ⟨0, Or.inl rfl, fun post P => br_f (by decide) (br_f (by decide) (br_f (by decide) (lx_set0 z (br_t rfl P)))), fun post P => br_f (by decide) (br_f (by decide) (br_f (by decide) (br_f (by decide) (ly_set0 z (br_t rfl P)))))⟩
        · exact ⟨1, Or.inr ⟨rfl, Or.inr ⟨y, hy, rfl, Or.inl (Or.inr (Or.inr (Or.inr (Or.inr (Or.inr rfl)))))⟩⟩, fun post P => br_f (by decide) (br_f (by decide) (br_f (by decide) (lx_set1 hs hy (br_f (by decide) (br_f (by decide) (br_f (by decide) (br_f (by decide) (br_t rfl (br_f (by decide) (br_f (by decide) (br_f (by decide) (P)))))))))))), fun post P => br_f (by decide) (br_f (by decide) (br_f (by decide) (br_f (by decide) (ly_set1 hs hy (br_f (by decide) (br_f (by decide) (br_f (by decide) (br_f (by decide) (br_f (by decide) (br_f (by decide) (br_f (by decide) (P))))))))))))⟩
end
section
variable {T : Nat → ln_D} {s y n : Nat} {K V kk vv sz bg hk hv : Nat → Int32} {h a : Int32} {post : Int32 → Prop}
theorem lx_two0 {o : Int32} (h5 : ¬ o = 5) (h7 : ¬ o = 7) (h9 : ¬ o = 9) (P : post 0) : wpX_takesTwoSets post o := br_f h5 (br_f h7 (br_f h9 P))
theorem lx_two1 {o : Int32} (h : o = 5 ∨ o = 7 ∨ o = 9) (P : post 1) : wpX_takesTwoSets post o := by
  rcases h with rfl | rfl | rfl
  · exact br_t rfl P
  · exact br_f (by decide) (br_t rfl P)
  · exact br_f (by decide) (br_f (by decide) (br_t rfl P))
theorem lx_mobx {o : Int32} (h0 : ¬ o = 0) (hs : s < 16) (hy : y < s) (hb : bg y = 1) (P : post 1) : wpX_isMadeOfBig post (h, nI s, hk, hv, kk, vv, sz, bg) o (nI y) a := by
  have yi : vp_in (nI y) 16 := vp_in_nI (by omega) (by omega)
  unfold wpX_isMadeOfBig
  dsimp only
  rw [nI_clamp (n := y) (by omega)]
  exact br_f h0 ⟨yi, br_f (by rw [hb]; decide) P⟩
theorem lx_mob1 {o : Int32} (h0 : ¬ o = 0) (h5 : ¬ o = 5) (h7 : ¬ o = 7) (h9 : ¬ o = 9) (hs : s < 16) (hy : y < s) (hb : bg y = 0) (P : post 0) : wpX_isMadeOfBig post (h, nI s, hk, hv, kk, vv, sz, bg) o (nI y) a := by
  have yi : vp_in (nI y) 16 := vp_in_nI (by omega) (by omega)
  unfold wpX_isMadeOfBig
  dsimp only
  rw [nI_clamp (n := y) (by omega)]
  exact br_f h0 ⟨yi, br_t hb (lx_two0 h5 h7 h9 (br_t rfl P))⟩
theorem lx_moba {o : Int32} {z : Nat} (h0 : o = 5 ∨ o = 7 ∨ o = 9) (hs : s < 16) (hy : y < s) (hb : bg y = 0) (hz : z < s) (hc : bg z = 1) (P : post 1) : wpX_isMadeOfBig post (h, nI s, hk, hv, kk, vv, sz, bg) o (nI y) (nI z) := by
  have yi : vp_in (nI y) 16 := vp_in_nI (by omega) (by omega)
  have zi : vp_in (nI z) 16 := vp_in_nI (by omega) (by omega)
  have n0 : ¬ o = 0 := by
    rintro rfl
    revert h0
    decide
  unfold wpX_isMadeOfBig
  dsimp only
  rw [nI_clamp (n := y) (by omega), nI_clamp (n := z) (by omega)]
  exact br_f n0 ⟨yi, br_t hb (lx_two1 h0 (br_f (by decide) ⟨zi, br_f (by rw [hc]; decide) P⟩))⟩
theorem lx_mob2 {o : Int32} {z : Nat} (h0 : o = 5 ∨ o = 7 ∨ o = 9) (hs : s < 16) (hy : y < s) (hb : bg y = 0) (hz : z < s) (hc : bg z = 0) (P : post 0) : wpX_isMadeOfBig post (h, nI s, hk, hv, kk, vv, sz, bg) o (nI y) (nI z) := by
  have yi : vp_in (nI y) 16 := vp_in_nI (by omega) (by omega)
  have zi : vp_in (nI z) 16 := vp_in_nI (by omega) (by omega)
  have n0 : ¬ o = 0 := by
    rintro rfl
    revert h0
    decide
  unfold wpX_isMadeOfBig
  dsimp only
  rw [nI_clamp (n := y) (by omega), nI_clamp (n := z) (by omega)]
  exact br_f n0 ⟨yi, br_t hb (lx_two1 h0 (br_f (by decide) ⟨zi, br_t hc P⟩))⟩
end
/-- the class asks whether the set is made of a big one, and works it out if not -/
theorem lx_mob {T : Nat → ln_D} {s hn : Nat} {kk vv sz bg sz0 hk hv : Nat → Int32} {o x a b : Int32} {gl : ln_L} {post : Int32 → Prop} (hs : s < 16) (hh : hn ≤ 24) (H : ∀ e, e < s → ln_Ho e (T e) kk vv sz bg) (ok : ln_Ok s o x a) (hgl : o = 0 → gl = ln_sq (fun i => [(hk i, hv i)]) hn 0)
    (P1 : ¬ o = 0 → ln_rs T o x a b gl = none → post 1)
    (P0 : (∀ (pw : SX → Prop) (sz' bg' : Nat → Int32), ln_Tb T s ln_e0 kk vv sz' bg' → (∀ kk' vv' sz' bg', ln_Tb T s (ln_rs T o x a b gl) kk' vv' sz' bg' → pw (if o = 0 then 0 else nI hn, nI s, hk, hv, kk', vv', sz', bg')) → wpX_workOut pw (nI hn, nI s, hk, hv, kk, vv, sz', bg') o x a b) → post 0) :
    wpX_isMadeOfBig post (nI hn, nI s, hk, hv, kk, vv, sz0, bg) o x a := by
  have N : ∀ e, e < s → T e = none → bg e = 1 := by
    intro e he z
    have h := H e he
    rw [z] at h
    exact h
  have S : ∀ e n K V, e < s → T e = some (n, K, V) → bg e = 0 := by
    intro e n K V he z
    have h := H e he
    rw [z] at h
    exact h.1
  rcases ok with rfl | ⟨y, hy, rfl, ((rfl | rfl | rfl | rfl | rfl | rfl) | ⟨(rfl | rfl), t, ht, rfl⟩ | ⟨(rfl | rfl | rfl), z, hz, rfl⟩)⟩
  · refine br_t rfl (P0 fun pw sz' bg' H' Q => ?_)
    rw [hgl rfl] at Q
    exact lx_w0 hh hs H' Q
  · match e : T y with
    | none => exact lx_mobx (by decide) hs hy (N y hy e) (P1 (by decide) (ln_rs_x (by decide) (by omega) e))
    | some (n, K, V) => exact lx_mob1 (by decide) (by decide) (by decide) (by decide) hs hy (S y n K V hy e) (P0 fun pw sz' bg' H' Q => lx_w1 hs H' hy e Q)
  · match e : T y with
    | none => exact lx_mobx (by decide) hs hy (N y hy e) (P1 (by decide) (ln_rs_x (by decide) (by omega) e))
    | some (n, K, V) => exact lx_mob1 (by decide) (by decide) (by decide) (by decide) hs hy (S y n K V hy e) (P0 fun pw sz' bg' H' Q => lx_w2 hs H' hy e Q)
  · match e : T y with
    | none => exact lx_mobx (by decide) hs hy (N y hy e) (P1 (by decide) (ln_rs_x (by decide) (by omega) e))
    | some (n, K, V) => exact lx_mob1 (by decide) (by decide) (by decide) (by decide) hs hy (S y n K V hy e) (P0 fun pw sz' bg' H' Q => lx_w3 hs H' hy e Q)
  · match e : T y with
    | none => exact lx_mobx (by decide) hs hy (N y hy e) (P1 (by decide) (ln_rs_x (by decide) (by omega) e))
    | some (n, K, V) => exact lx_mob1 (by decide) (by decide) (by decide) (by decide) hs hy (S y n K V hy e) (P0 fun pw sz' bg' H' Q => lx_w8 hs H' hy e Q)
  · match e : T y with
    | none => exact lx_mobx (by decide) hs hy (N y hy e) (P1 (by decide) (ln_rs_x (by decide) (by omega) e))
    | some (n, K, V) => exact lx_mob1 (by decide) (by decide) (by decide) (by decide) hs hy (S y n K V hy e) (P0 fun pw sz' bg' H' Q => lx_w10 hs H' hy e Q)
  · match e : T y with
    | none => exact lx_mobx (by decide) hs hy (N y hy e) (P1 (by decide) (ln_rs_x (by decide) (by omega) e))
    | some (n, K, V) => exact lx_mob1 (by decide) (by decide) (by decide) (by decide) hs hy (S y n K V hy e) (P0 fun pw sz' bg' H' Q => lx_w11 hs H' hy e Q)
  · match e : T y with
    | none => exact lx_mobx (by decide) hs hy (N y hy e) (P1 (by decide) (ln_rs_x (by decide) (by omega) e))
    | some (n, K, V) => exact lx_mob1 (by decide) (by decide) (by decide) (by decide) hs hy (S y n K V hy e) (P0 fun pw sz' bg' H' Q => lx_w4 ht hs H' hy e Q)
  · match e : T y with
    | none => exact lx_mobx (by decide) hs hy (N y hy e) (P1 (by decide) (ln_rs_x (by decide) (by omega) e))
    | some (n, K, V) => exact lx_mob1 (by decide) (by decide) (by decide) (by decide) hs hy (S y n K V hy e) (P0 fun pw sz' bg' H' Q => lx_w6 hs H' hy e Q)
  · match e : T y with
    | none => exact lx_mobx (by decide) hs hy (N y hy e) (P1 (by decide) (ln_rs_x (by decide) (by omega) e))
    | some (n, K, V) =>
      match e2 : T z with
      | none => exact lx_moba (by decide) hs hy (S y n K V hy e) hz (N z hz e2) (P1 (by decide) (ln_rs_a (by decide) (by omega) e (by omega) e2))
      | some (m, K', V') => exact lx_mob2 (by decide) hs hy (S y n K V hy e) hz (S z m K' V' hz e2) (P0 fun pw sz' bg' H' Q => lx_w5 hs H' hy e hz e2 Q)
  · match e : T y with
    | none => exact lx_mobx (by decide) hs hy (N y hy e) (P1 (by decide) (ln_rs_x (by decide) (by omega) e))
    | some (n, K, V) =>
      match e2 : T z with
      | none => exact lx_moba (by decide) hs hy (S y n K V hy e) hz (N z hz e2) (P1 (by decide) (ln_rs_a (by decide) (by omega) e (by omega) e2))
      | some (m, K', V') => exact lx_mob2 (by decide) hs hy (S y n K V hy e) hz (S z m K' V' hz e2) (P0 fun pw sz' bg' H' Q => lx_w7 hs H' hy e hz e2 Q)
  · match e : T y with
    | none => exact lx_mobx (by decide) hs hy (N y hy e) (P1 (by decide) (ln_rs_x (by decide) (by omega) e))
    | some (n, K, V) =>
      match e2 : T z with
      | none => exact lx_moba (by decide) hs hy (S y n K V hy e) hz (N z hz e2) (P1 (by decide) (ln_rs_a (by decide) (by omega) e (by omega) e2))
      | some (m, K', V') => exact lx_mob2 (by decide) hs hy (S y n K V hy e) hz (S z m K' V' hz e2) (P0 fun pw sz' bg' H' Q => lx_w9 hs H' hy e hz e2 Q)
theorem lx_derive {T : Nat → ln_D} {s hn : Nat} {kk vv sz bg hk hv : Nat → Int32} {o x a b : Int32} {gl : ln_L} {post : Int32 → SX → Prop} (hs : s < 16) (hh : hn ≤ 24) (H : ∀ e, e < s → ln_Ho e (T e) kk vv sz bg) (ok : ln_Ok s o x a) (hgl : o = 0 → gl = ln_sq (fun i => [(hk i, hv i)]) hn 0)
    (F : ∀ post : Int32 → Prop, post 1 → wpX_operandsFit post (nI hn, nI s, hk, hv, kk, vv, sz, bg) o x a)
    (P : ∀ kk' vv' sz' bg', (∀ e, e < s → ln_Ho e (T e) kk' vv' sz' bg') → ln_Ho s (ln_rs T o x a b gl) kk' vv' sz' bg' → post (nI s) (if o = 0 then 0 else nI hn, nI (s + 1), hk, hv, kk', vv', sz', bg')) :
    wpX_derive post (nI hn, nI s, hk, hv, kk, vv, sz, bg) o x a b := by
  have si : vp_in (nI s) 16 := vp_in_nI (by omega) (by omega)
  unfold wpX_derive
  dsimp only
  rw [nI_clamp (n := s) (by omega)]
  refine br_t (nI_lt (b := 16) (by omega) (by decide)) (F _ (br_f (by decide) ⟨si, nm_e ?_⟩))
  refine lx_mob (sz := sz) (b := b) (gl := gl) hs hh H ok hgl (fun h0 e => ?_) (fun W => ?_)
  · have st := ln_startb (z := 0) H
    have p := P _ _ _ _ st.1 (by rw [e]; exact st.2)
    rw [if_neg h0] at p
    rw [lx_nar1]
    refine ⟨si, nm_e ⟨si, br_f (by rw [pk_us]; decide) (nm_r (nI_1 s) ?_)⟩⟩
    rw [nI_pred]
    exact p
  · rw [lx_nar0]
    refine ⟨si, nm_e ⟨si, br_t pk_us (W _ _ _ (ln_start H) fun kk' vv' sz' bg' H' => nm_r (nI_1 s) ?_)⟩⟩
    rw [nI_pred]
    exact P _ _ _ _ H'.1 (ln_Bu_Ho H'.2)
end
section
def i_Rel (_ : Nat) (u : SX) (v : SY) : Prop :=
  ∃ (h s : Nat) (hk hv kk vv sz bg ki px pa pb gn gk gv sz' bg' kk' vv' : Nat → Int32) (T : Nat → ln_D),
    u = (nI h, nI s, hk, hv, kk, vv, sz, bg) ∧ v = (nI h, nI s, hk, hv, ki, px, pa, pb, gn, gk, gv, sz', bg', kk', vv') ∧ h ≤ 24 ∧ s ≤ 16 ∧ (∀ i, i < h → ln_kr (hk i)) ∧
    (∀ e, e < s → ln_Ho e (T e) kk vv sz bg) ∧ (∀ e, e < s → ln_Rc T e ki px pa pb gn gk gv)
theorem ir_mk {k h s : Nat} {hk hv kk vv sz bg ki px pa pb gn gk gv sz' bg' kk' vv' : Nat → Int32} {T : Nat → ln_D} (h1 : h ≤ 24) (h2 : s ≤ 16) (h3 : ∀ i, i < h → ln_kr (hk i))
    (h4 : ∀ e, e < s → ln_Ho e (T e) kk vv sz bg) (h5 : ∀ e, e < s → ln_Rc T e ki px pa pb gn gk gv) :
    i_Rel k (nI h, nI s, hk, hv, kk, vv, sz, bg) (nI h, nI s, hk, hv, ki, px, pa, pb, gn, gk, gv, sz', bg', kk', vv') :=
  ⟨h, s, hk, hv, kk, vv, sz, bg, ki, px, pa, pb, gn, gk, gv, sz', bg', kk', vv', T, rfl, rfl, h1, h2, h3, h4, h5⟩
theorem ln_Ok_x {s : Nat} {o x a : Int32} (ok : ln_Ok s o x a) (h0 : ¬ o = 0) : ∃ y, y < s ∧ x = nI y := by
  rcases ok with z | ⟨y, hy, e, _⟩
  · exact absurd z h0
  · exact ⟨y, hy, e⟩
theorem ln_Ok_a {s : Nat} {o x a : Int32} (ok : ln_Ok s o x a) (h2 : o = 5 ∨ o = 7 ∨ o = 9) : ∃ z, z < s ∧ a = nI z := by
  rcases ok with rfl | ⟨y, hy, e, ((rfl | rfl | rfl | rfl | rfl | rfl) | ⟨(rfl | rfl), _⟩ | ⟨_, z⟩)⟩
  · exact absurd h2 (by decide)
  · exact absurd h2 (by decide)
  · exact absurd h2 (by decide)
  · exact absurd h2 (by decide)
  · exact absurd h2 (by decide)
  · exact absurd h2 (by decide)
  · exact absurd h2 (by decide)
  · exact absurd h2 (by decide)
  · exact absurd h2 (by decide)
  · exact z
theorem ln_rs_cg {T T' : Nat → ln_D} {s : Nat} {o x a b : Int32} {gl : ln_L} (hs : s ≤ 16) (hT : ∀ e, e < s → T' e = T e) (ok : ln_Ok s o x a) : ln_rs T' o x a b gl = ln_rs T o x a b gl := by
  unfold ln_rs
  by_cases h0 : o = 0
  · rw [if_pos h0, if_pos h0]
  · obtain ⟨y, hy, e1⟩ := ln_Ok_x ok h0
    have e1 : T' x.toNatClampNeg = T x.toNatClampNeg := by
      rw [e1, nI_clamp (by omega)]
      exact hT y hy
    rw [if_neg h0, if_neg h0, e1]
    match T x.toNatClampNeg with
    | none => rfl
    | some (n, K, V) =>
      dsimp only
      by_cases h2 : o = 5 ∨ o = 7 ∨ o = 9
      · obtain ⟨z, hz, e2⟩ := ln_Ok_a ok h2
        have e2 : T' a.toNatClampNeg = T a.toNatClampNeg := by
          rw [e2, nI_clamp (by omega)]
          exact hT z hz
        rw [if_pos h2, if_pos h2, e2]
      · rw [if_neg h2, if_neg h2]
/-- a data set more -/
theorem ir_new {k h s c : Nat} {hk hv kk vv sz bg ki px pa pb gn gk gv gn' gk' gv' sz' bg' kk' vv' : Nat → Int32} {T : Nat → ln_D} {o x a b : Int32} (h1 : h ≤ 24) (h2 : s < 16) (h3 : ∀ i, i < h → ln_kr (hk i))
    (h5 : ∀ e, e < s → ln_Rc T e ki px pa pb gn gk gv) (ok : ln_Ok s o x a) (hc : c ≤ 24) (hg : gn' s = nI c) (hgn : ∀ e, e < s → gn' e = gn e) (hgk : ∀ p, p < 24 * s → gk' p = gk p ∧ gv' p = gv p)
    (hkr : ∀ i, i < c → ln_kr (gk' (24 * s + i))) (h4 : ∀ e, e < s → ln_Ho e (T e) kk vv sz bg) (h6 : ln_Ho s (ln_rs T o x a b (ln_sq (fun i => [(gk' (24 * s + i), gv' (24 * s + i))]) c 0)) kk vv sz bg) :
    i_Rel k (nI h, nI (s + 1), hk, hv, kk, vv, sz, bg) (nI h, nI (s + 1), hk, hv, upd ki s o, upd px s x, upd pa s a, upd pb s b, gn', gk', gv', sz', bg', kk', vv') := by
  have hR : ln_Gd (ln_rs T o x a b (ln_sq (fun i => [(gk' (24 * s + i), gv' (24 * s + i))]) c 0)) := by
    refine ln_Gd_rs (fun h0 => ?_) (fun hh => ?_) (fun p hp => ?_)
    · obtain ⟨y, hy, e1⟩ := ln_Ok_x ok h0
      rw [e1, nI_clamp (by omega)]
      exact (h5 y hy).2.1
    · obtain ⟨y, hy, e1⟩ := ln_Ok_a ok hh
      rw [e1, nI_clamp (by omega)]
      exact (h5 y hy).2.1
    · obtain ⟨j, _, j2, j3⟩ := ln_sq_mem _ _ hp
      rw [List.mem_singleton.mp j3]
      exact hkr j (by omega)
  have hT : ∀ e, e < s → (fun e => if e = s then ln_rs T o x a b (ln_sq (fun i => [(gk' (24 * s + i), gv' (24 * s + i))]) c 0) else T e) e = T e := fun e he => if_neg (by omega)
  refine ir_mk (T := fun e => if e = s then ln_rs T o x a b (ln_sq (fun i => [(gk' (24 * s + i), gv' (24 * s + i))]) c 0) else T e) h1 (by omega) h3 (fun e he => ?_) (fun e he => ?_)
  · by_cases z : e = s
    · subst z
      rw [if_pos rfl]
      exact h6
    · rw [if_neg z]
      exact h4 e (by omega)
  · by_cases z : e = s
    · subst z
      refine ⟨?_, ?_, c, hc, hg, ?_⟩
      · rw [pk_us, pk_us, pk_us]
        exact ok
      · dsimp only
        rw [if_pos rfl]
        exact hR
      · rw [pk_us, pk_us, pk_us, pk_us, ln_rs_cg (T := T) (by omega) hT ok]
        exact if_pos rfl
    · have he2 : e < s := by omega
      obtain ⟨oke, gde, ce, hce, hge, hTe⟩ := h5 e he2
      refine ⟨?_, ?_, ce, hce, (hgn e he2).trans hge, ?_⟩
      · rw [pk_un z, pk_un z, pk_un z]
        exact oke
      · rw [hT e he2]
        exact gde
      · have eq : ln_sq (fun i => [(gk' (24 * e + i), gv' (24 * e + i))]) ce 0 = ln_sq (fun i => [(gk (24 * e + i), gv (24 * e + i))]) ce 0 := by
          refine ln_sq_cg _ _ fun j _ hj => ?_
          have q := hgk (24 * e + j) (by omega)
          rw [q.1, q.2]
        rw [pk_un z, pk_un z, pk_un z, pk_un z, eq, ln_rs_cg (T := T) (s := e) (by omega) (fun e' he' => hT e' (by omega)) oke]
        exact (hT e he2).trans hTe
section
variable {h s : Nat} {hk hv ki px pa pb gn gk0 gv0 sz bg kk vv : Nat → Int32} {post : Int32 → SY → Prop}
theorem ly_d82 (hs : s < 16) (hh : h ≤ 24)
    (P : ∀ gk' gv', (∀ j, j < h → gk' (24 * s + j) = hk j ∧ gv' (24 * s + j) = hv j) → (∀ p, p < 24 * s → gk' p = gk0 p ∧ gv' p = gv0 p) → post (nI s) (0, nI (s + 1), hk, hv, ki, px, pa, pb, upd gn s (nI h), gk', gv', sz, bg, kk, vv)) :
    ∀ l i gk gv, i + l = h → (∀ j, j < i → gk (24 * s + j) = hk j ∧ gv (24 * s + j) = hv j) → (∀ p, p < 24 * s → gk p = gk0 p ∧ gv p = gv0 p) → wY_derive_82 post (nI h) (nI s) (l + 1) (nI i) hk hv ki px pa pb gn gk gv sz bg kk vv := by
  have si : vp_in (nI s) 16 := vp_in_nI (by omega) (by omega)
  intro l
  induction l with
  | zero =>
    intro i gk gv hi h1 h2
    have : i = h := by omega
    subst this
    refine br_t (nI_le (Nat.le_refl _) (by omega)) ⟨si, ?_⟩
    rw [nI_clamp (n := s) (by omega)]
    refine nm_e (nm_r (nI_1 s) ?_)
    rw [nI_pred]
    exact P gk gv h1 h2
  | succ l ih =>
    intro i gk gv hi h1 h2
    have i1 : vp_in (nI i) 24 := vp_in_nI (by omega) (by omega)
    have i2 : vp_in (nI (24 * s + i)) 384 := vp_in_nI (by omega) (by omega)
    refine br_f (nI_ge (by omega) (by omega)) ?_
    rw [ln_fr, nI_add, nI_clamp (n := i) (by omega), nI_clamp (n := 24 * s + i) (by omega)]
    refine ⟨i1, i2, nm_e ⟨i1, i2, nm_e (nm_r (nI_1 i) (ih (i + 1) _ _ (by omega) (fun j hj => ?_) fun p hp => ?_))⟩⟩
    · by_cases z : j = i
      · subst z
        rw [pk_us, pk_us]
        exact ⟨rfl, rfl⟩
      · rw [pk_un (by omega), pk_un (by omega)]
        exact h1 j (by omega)
    · rw [pk_un (by omega), pk_un (by omega)]
      exact h2 p hp
theorem ly_derive0 {x a b : Int32} (hs : s < 16) (hh : h ≤ 24)
    (F : ∀ post : Int32 → Prop, post 1 → wpY_fits post (nI h, nI s, hk, hv, ki, px, pa, pb, gn, gk0, gv0, sz, bg, kk, vv) 0 x a)
    (P : ∀ gk' gv', (∀ j, j < h → gk' (24 * s + j) = hk j ∧ gv' (24 * s + j) = hv j) → (∀ p, p < 24 * s → gk' p = gk0 p ∧ gv' p = gv0 p) → post (nI s) (0, nI (s + 1), hk, hv, upd ki s 0, upd px s x, upd pa s a, upd pb s b, upd (upd gn s 0) s (nI h), gk', gv', sz, bg, kk, vv)) :
    wpY_derive post (nI h, nI s, hk, hv, ki, px, pa, pb, gn, gk0, gv0, sz, bg, kk, vv) 0 x a b := by
  have si : vp_in (nI s) 16 := vp_in_nI (by omega) (by omega)
  have ne : ¬ nI s = 16 := fun z => absurd ((nI_eq (b := 16) (by omega) (by decide)).mp z) (by omega)
  unfold wpY_derive
  dsimp only
  rw [nI_clamp (n := s) (by omega)]
  exact br_f ne (F _ (br_f (by decide) ⟨si, nm_e ⟨si, nm_e ⟨si, nm_e ⟨si, nm_e ⟨si, nm_e (br_t rfl ⟨h + 1, ly_d82 hs hh P h 0 gk0 gv0 (by omega) (fun j hj => absurd hj (by omega)) (fun _ _ => ⟨rfl, rfl⟩)⟩)⟩⟩⟩⟩⟩))
theorem ly_derive1 {o x a b : Int32} (h0 : ¬ o = 0) (hs : s < 16)
    (F : ∀ post : Int32 → Prop, post 1 → wpY_fits post (nI h, nI s, hk, hv, ki, px, pa, pb, gn, gk0, gv0, sz, bg, kk, vv) o x a)
    (P : post (nI s) (nI h, nI (s + 1), hk, hv, upd ki s o, upd px s x, upd pa s a, upd pb s b, upd gn s 0, gk0, gv0, sz, bg, kk, vv)) :
    wpY_derive post (nI h, nI s, hk, hv, ki, px, pa, pb, gn, gk0, gv0, sz, bg, kk, vv) o x a b := by
  have si : vp_in (nI s) 16 := vp_in_nI (by omega) (by omega)
  have ne : ¬ nI s = 16 := fun z => absurd ((nI_eq (b := 16) (by omega) (by decide)).mp z) (by omega)
  unfold wpY_derive
  dsimp only
  rw [nI_clamp (n := s) (by omega)]
  refine br_f ne (F _ (br_f (by decide) ⟨si, nm_e ⟨si, nm_e ⟨si, nm_e ⟨si, nm_e ⟨si, nm_e (br_f h0 (nm_r (nI_1 s) ?_))⟩⟩⟩⟩⟩))
  rw [nI_pred]
  exact P
end
theorem i_vc_derive {k : Nat} {u : SX} {v : SY} (I : i_Rel k u v) (hk : k + 5 ≤ 2560) (v1 : Int32) (v2 : Int32) (v3 : Int32) (v4 : Int32) : wpX_derive (fun r u' => wpY_derive (fun r' v' => r' = r ∧ i_Rel (k + 5) u' v') v v1 v2 v3 v4) u v1 v2 v3 v4 := by
  obtain ⟨h, s, hk', hv, kk, vv, sz, bg, ki, px, pa, pb, gn, gk, gv, sz', bg', kk', vv', T, rfl, rfl, h1, h2, h3, h4, h5⟩ := I
  by_cases hs : s < 16
  · obtain ⟨r, hr, FX, FY⟩ := lz_fit (h := nI h) (hh := nI h) (hk := hk') (hv := hv) (kk := kk) (vv := vv) (sz := sz) (bg := bg) (ki := ki) (px := px) (pa := pa) (pb := pb) (gn := gn) (gk := gk) (gv := gv) (sz2 := sz') (bg2 := bg') (kk2 := kk') (vv2 := vv') h2 v1 v2 v3
    have ne : ¬ nI s = 16 := fun z => absurd ((nI_eq (b := 16) (by omega) (by decide)).mp z) (by omega)
    rcases hr with rfl | ⟨rfl, ok⟩
    · unfold wpX_derive wpY_derive
      dsimp only
      exact br_t (nI_lt (b := 16) (by omega) (by decide)) (FX _ (br_t rfl (br_f ne (FY _ (br_t rfl ⟨rfl, ir_mk h1 h2 h3 h4 h5⟩)))))
    · by_cases h0 : v1 = 0
      · subst h0
        refine lx_derive hs h1 h4 ok (fun _ => rfl) FX fun kk2 vv2 sz2 bg2 H1 H2 => ?_
        rw [if_pos rfl]
        refine ly_derive0 hs h1 FY fun gk' gv' G1 G2 => ⟨rfl, ?_⟩
        refine ir_new (h := 0) (c := h) (by omega) hs (fun i hi => absurd hi (by omega)) h5 ok h1 pk_us (fun e he => by rw [pk_un (by omega), pk_un (by omega)]) G2 (fun i hi => by rw [(G1 i hi).1]; exact h3 i hi) H1 ?_
        have eq : ln_sq (fun i => [(gk' (24 * s + i), gv' (24 * s + i))]) h 0 = ln_sq (fun i => [(hk' i, hv i)]) h 0 := by
          refine ln_sq_cg _ _ fun j _ hj => ?_
          have q := G1 j (by omega)
          rw [q.1, q.2]
        rw [eq]
        exact H2
      · refine lx_derive (gl := []) hs h1 h4 ok (fun z => absurd z h0) FX fun kk2 vv2 sz2 bg2 H1 H2 => ?_
        rw [if_neg h0]
        refine ly_derive1 h0 hs FY ⟨rfl, ?_⟩
        exact ir_new (c := 0) h1 hs h3 h5 ok (by omega) pk_us (fun e he => pk_un (by omega)) (fun _ _ => ⟨rfl, rfl⟩) (fun i hi => absurd hi (by omega)) H1 H2
  · have e : s = 16 := by omega
    subst e
    unfold wpX_derive wpY_derive
    dsimp only
    exact br_f (by decide) (br_t rfl ⟨rfl, ir_mk h1 h2 h3 h4 h5⟩)
end
section
theorem ln_rh {x n i : Nat} {K V kk vv sz bg : Nat → Int32} (hx : x < 16) (h : ln_Ho x (some (n, K, V)) kk vv sz bg) (hi : i < n) :
    kk (nI (48 * x + i)).toNatClampNeg = K i ∧ vv (nI (48 * x + i)).toNatClampNeg = V i ∧ vp_in (nI (48 * x + i)) 768 := by
  obtain ⟨h1, h2, h3, h4⟩ := h
  rw [nI_clamp (by omega)]
  exact ⟨(h4 i hi).1, (h4 i hi).2, vp_in_nI (by omega) (by omega)⟩
theorem ln_eh {x n : Nat} {K V kk vv sz bg : Nat → Int32} (hx : x < 16) (h : ln_Ho x (some (n, K, V)) kk vv sz bg) : 48 * nI x + sz (nI x).toNatClampNeg = nI (48 * x + n) := by
  rw [nI_clamp (by omega), h.2.2.1, ln_fq, nI_add]
def ln_lk (K V : Nat → Int32) (k : Int32) : Nat → Nat → Int32 → Int32
  | 0, _, a => a
  | l + 1, i, a => ln_lk K V k l (i + 1) (if K i = k then a + V i else a)
section
variable {x n : Nat} {K V kk vv sz bg hk hv : Nat → Int32} {h f : Int32} {post : Int32 → Prop}
theorem lx_total_l (hx : x < 16) (H : ln_Ho x (some (n, K, V)) kk vv sz bg) :
    ∀ l j c, j + l = n → post (ln_sm V l j c) → wX_sumOfPlaces_5 post (nI (48 * x + n)) h f hk hv kk vv sz bg (l + 1) c (nI (48 * x + j)) := by
  have hn := H.2.1
  intro l
  induction l with
  | zero =>
    intro j c hj P
    exact br_t (nI_le (by omega) (by omega)) P
  | succ l ih =>
    intro j c hj P
    obtain ⟨r1, r2, r3⟩ := ln_rh hx H (show j < n by omega)
    refine br_f (nI_ge (by omega) (by omega)) ⟨r3, ?_⟩
    rw [r2]
    exact nm_e (nm_r (nI_1 _) (ih (j + 1) _ (by omega) P))
theorem lx_lookup_l {k : Int32} (hx : x < 16) (H : ln_Ho x (some (n, K, V)) kk vv sz bg) :
    ∀ l j c, j + l = n → post (ln_lk K V k l j c) → wX_lookup_37 post k (nI (48 * x + n)) h f hk hv kk vv sz bg (l + 1) c (nI (48 * x + j)) := by
  have hn := H.2.1
  intro l
  induction l with
  | zero =>
    intro j c hj P
    exact br_t (nI_le (by omega) (by omega)) P
  | succ l ih =>
    intro j c hj P
    obtain ⟨r1, r2, r3⟩ := ln_rh hx H (show j < n by omega)
    unfold ln_lk at P
    refine br_f (nI_ge (by omega) (by omega)) ⟨r3, ?_⟩
    rw [r1, r2]
    refine br_c (fun e => ?_) fun e => ?_
    · rw [if_pos e] at P
      exact ⟨r3, nm_e (nm_r (nI_1 _) (ih (j + 1) _ (by omega) P))⟩
    · rw [if_neg e] at P
      exact nm_r (nI_1 _) (ih (j + 1) _ (by omega) P)
theorem lx_endh (hx : x < 16) (H : ln_Ho x (some (n, K, V)) kk vv sz bg) (P : post (nI (48 * x + n))) : wpX_endPlace post (h, f, hk, hv, kk, vv, sz, bg) (nI x) := by
  have e := ln_eh hx H
  unfold wpX_endPlace
  dsimp only
  rw [ln_fp, ← ln_fq, e]
  exact ⟨vp_in_nI (by omega) (by omega), P⟩
end
section
variable {x n : Nat} {K V kk vv sz bg hk hv ki px pa pb gn gk gv : Nat → Int32} {hh nn : Int32} {post : Int32 → SY → Prop}
theorem ly_total_l (hx : x < 16) (H : ln_Ho x (some (n, K, V)) kk vv sz bg) :
    ∀ l j c, j + l = n → post (ln_sm V l j c) (hh, nn, hk, hv, ki, px, pa, pb, gn, gk, gv, sz, bg, kk, vv) → wY_total_17 post (nI x) hh nn hk hv ki px pa pb gn gk gv sz bg kk vv (l + 1) c (nI (48 * x + j)) := by
  have hn := H.2.1
  have xi : vp_in (nI x) 16 := vp_in_nI (by omega) (by omega)
  have e := ln_eh hx H
  intro l
  induction l with
  | zero =>
    intro j c hj P
    exact ⟨xi, br_t (by rw [e]; exact nI_le (by omega) (by omega)) P⟩
  | succ l ih =>
    intro j c hj P
    obtain ⟨r1, r2, r3⟩ := ln_rh hx H (show j < n by omega)
    refine ⟨xi, br_f (by rw [e]; exact nI_ge (by omega) (by omega)) ⟨r3, ?_⟩⟩
    rw [r2]
    exact nm_e (nm_r (nI_1 _) (ih (j + 1) _ (by omega) P))
theorem ly_lookup_l {k : Int32} (hx : x < 16) (H : ln_Ho x (some (n, K, V)) kk vv sz bg) :
    ∀ l j c, j + l = n → post (ln_lk K V k l j c) (hh, nn, hk, hv, ki, px, pa, pb, gn, gk, gv, sz, bg, kk, vv) → wY_lookup_18 post (nI x) k hh nn hk hv ki px pa pb gn gk gv sz bg kk vv (l + 1) c (nI (48 * x + j)) := by
  have hn := H.2.1
  have xi : vp_in (nI x) 16 := vp_in_nI (by omega) (by omega)
  have e := ln_eh hx H
  intro l
  induction l with
  | zero =>
    intro j c hj P
    exact ⟨xi, br_t (by rw [e]; exact nI_le (by omega) (by omega)) P⟩
  | succ l ih =>
    intro j c hj P
    obtain ⟨r1, r2, r3⟩ := ln_rh hx H (show j < n by omega)
    unfold ln_lk at P
    refine ⟨xi, br_f (by rw [e]; exact nI_ge (by omega) (by omega)) ⟨r3, ?_⟩⟩
    rw [r1, r2]
    refine br_c (fun e => ?_) fun e => ?_
    · rw [if_pos e] at P
      exact ⟨r3, nm_e (nm_r (nI_1 _) (ih (j + 1) _ (by omega) P))⟩
    · rw [if_neg e] at P
      exact nm_r (nI_1 _) (ih (j + 1) _ (by omega) P)
end
end
section
theorem i_up {k : Nat} {u : SX} {v : SY} (h : i_Rel k u v) : i_Rel (k + 5) u v := h
theorem i_vc0 : wpX_init (fun u => wpY_init (fun v => i_Rel 0 u v)) :=
  ⟨0, 0, _, _, _, _, _, _, _, _, _, _, _, _, _, _, _, _, _, (fun _ => none), rfl, rfl, by omega, by omega, fun i hi => absurd hi (by omega), fun i hi => absurd hi (by omega), fun i hi => absurd hi (by omega)⟩
theorem i_vc_row {k : Nat} {u : SX} {v : SY} (I : i_Rel k u v) (hk : k + 5 ≤ 2560) (v1 : Int32) (v2 : Int32) : wpX_row (fun r u' => wpY_row (fun r' v' => r' = r ∧ i_Rel (k + 5) u' v') v v1 v2) u v1 v2 := by
  obtain ⟨h, s, hk', hv, kk, vv, sz, bg, ki, px, pa, pb, gn, gk, gv, sz', bg', kk', vv', T, rfl, rfl, h1, h2, h3, h4, h5⟩ := I
  unfold wpX_row wpY_row
  dsimp only
  by_cases hf : h < 24
  · have ne : ¬ nI h = 24 := fun z => absurd ((nI_eq (b := 24) (by omega) (by decide)).mp z) (by omega)
    have hi : vp_in (nI h) 24 := vp_in_nI (by omega) (by omega)
    refine br_t (nI_lt (b := 24) (by omega) (by decide)) ?_
    by_cases c1 : v1 < 0
    · exact br_t c1 (br_f ne (br_t c1 (br_t rfl ⟨rfl, ir_mk h1 h2 h3 h4 h5⟩)))
    · obtain ⟨j, hj, rfl⟩ := nI_of c1
      by_cases c2 : j < 16
      · rw [nI_clamp (n := h) (by omega)]
        refine br_f c1 (br_t (nI_lt (b := 16) c2 (by decide)) ⟨hi, nm_e ⟨hi, nm_e (nm_r (nI_1 h) (br_f ne (br_f c1 (br_f (nI_nlt (a := 15) (by omega) (by decide)) (br_f (by decide) ⟨hi, nm_e ⟨hi, nm_e (nm_r (nI_1 h) ⟨rfl, ?_⟩)⟩⟩)))))⟩⟩)
        refine ir_mk (by omega) h2 (fun i hi => ?_) h4 h5
        by_cases z : i = h
        · subst z
          rw [pk_us]
          unfold ln_kr
          rw [nI_toInt hj]
          omega
        · rw [pk_un z]
          exact h3 i (by omega)
      · exact br_f c1 (br_f (nI_nlt (b := 16) (by omega) hj) (br_f ne (br_f c1 (br_t (nI_lt (a := 15) (by omega) hj) (br_t rfl ⟨rfl, ir_mk h1 h2 h3 h4 h5⟩)))))
  · have e : h = 24 := by omega
    subst e
    exact br_f (by decide) (br_t rfl ⟨rfl, ir_mk h1 h2 h3 h4 h5⟩)
theorem i_vc_count {k : Nat} {u : SX} {v : SY} (I : i_Rel k u v) (hk : k + 5 ≤ 2560) (v1 : Int32) : wpX_count (fun r => wpY_count (fun r' v' => r' = r ∧ i_Rel (k + 5) u v') v v1) u v1 := by
  obtain ⟨h, s, hk', hv, kk, vv, sz, bg, ki, px, pa, pb, gn, gk, gv, sz', bg', kk', vv', T, rfl, rfl, h1, h2, h3, h4, h5⟩ := I
  rcases lz_ix v1 (n := s) (by omega) with z | ⟨d, hd, rfl⟩
  · unfold wpX_count wpY_count
    dsimp only
    exact lx_set0 z (br_t rfl (ly_set0 z (br_t rfl ⟨rfl, ir_mk h1 h2 h3 h4 h5⟩)))
  · have di : vp_in (nI d) 16 := vp_in_nI (by omega) (by omega)
    have H := h4 d hd
    unfold wpX_count wpY_count
    dsimp only
    rw [nI_clamp (n := d) (by omega)]
    refine lx_set1 h2 hd (br_f (by decide) ⟨di, ?_⟩)
    match e : T d with
    | none =>
      rw [e] at H
      have hb : bg d = 1 := H
      refine br_f (by rw [hb]; decide) (ly_set1 h2 hd (br_f (by decide) (ly_ask h2 hd h5 fun kk2 vv2 sz2 bg2 H2 => ⟨fun _ => br_t rfl ⟨rfl, ir_mk h1 h2 h3 h4 h5⟩, fun n K V e2 => ?_⟩)))
      rw [e] at e2
      cases e2
    | some (n, K, V) =>
      rw [e] at H
      have hb : bg d = 0 := H.1
      have hn := H.2.1
      have hz : sz d = nI n := H.2.2.1
      refine br_t hb ⟨di, ly_set1 h2 hd (br_f (by decide) (ly_ask h2 hd h5 fun kk2 vv2 sz2 bg2 H2 => ⟨fun e2 => ?_, fun n2 K2 V2 e2 => br_f (by decide) ⟨di, ?_, ir_mk h1 h2 h3 h4 h5⟩⟩))⟩
      · rw [e] at e2
        cases e2
      · have Hd := H2 d (by omega)
        rw [e] at Hd
        show sz2 d = sz d
        rw [Hd.2.2.1, hz]
theorem i_vc_keyOf {k : Nat} {u : SX} {v : SY} (I : i_Rel k u v) (hk : k + 5 ≤ 2560) (v1 : Int32) (v2 : Int32) : wpX_keyOf (fun r => wpY_keyOf (fun r' v' => r' = r ∧ i_Rel (k + 5) u v') v v1 v2) u v1 v2 := by
  obtain ⟨h, s, hk', hv, kk, vv, sz, bg, ki, px, pa, pb, gn, gk, gv, sz', bg', kk', vv', T, rfl, rfl, h1, h2, h3, h4, h5⟩ := I
  rcases lz_ix v1 (n := s) (by omega) with z | ⟨d, hd, rfl⟩
  · unfold wpX_keyOf wpY_keyOf
    dsimp only
    exact lx_set0 z (br_t rfl (ly_set0 z (br_t rfl ⟨rfl, ir_mk h1 h2 h3 h4 h5⟩)))
  · have di : vp_in (nI d) 16 := vp_in_nI (by omega) (by omega)
    have H := h4 d hd
    unfold wpX_keyOf wpY_keyOf
    dsimp only
    unfold wpX_hasPair
    dsimp only
    rw [nI_clamp (n := d) (by omega)]
    refine lx_set1 h2 hd (br_f (by decide) ⟨di, ?_⟩)
    match e : T d with
    | none =>
      rw [e] at H
      have hb : bg d = 1 := H
      refine br_f (by rw [hb]; decide) (ly_set1 h2 hd (br_f (by decide) (ly_ask h2 hd h5 fun kk2 vv2 sz2 bg2 H2 => ⟨fun _ => br_t rfl ⟨rfl, ir_mk h1 h2 h3 h4 h5⟩, fun n K V e2 => ?_⟩)))
      rw [e] at e2
      cases e2
    | some (n, K, V) =>
      rw [e] at H
      have hb : bg d = 0 := H.1
      have hn := H.2.1
      have hz : sz d = nI n := H.2.2.1
      refine br_t hb ?_
      have N : T d = none → False := by
        intro e2
        rw [e] at e2
        cases e2
      have Z : ∀ kk2 vv2 sz2 bg2, (∀ e, e < d + 1 → ln_Ho e (T e) kk2 vv2 sz2 bg2) → ln_Ho d (some (n, K, V)) kk2 vv2 sz2 bg2 := by
        intro kk2 vv2 sz2 bg2 H2
        have Hd := H2 d (by omega)
        rw [e] at Hd
        exact Hd
      rw [hz]
      rcases pk_ix v2 (n := n) (by omega) with y | y | ⟨i, hi, rfl⟩
      · exact br_t y (br_t rfl (ly_set1 h2 hd (br_f (by decide) (ly_ask h2 hd h5 fun kk2 vv2 sz2 bg2 H2 => ⟨fun e2 => (N e2).elim, fun n2 K2 V2 e2 => br_f (by decide) (br_t y ⟨rfl, ir_mk h1 h2 h3 h4 h5⟩)⟩))))
      · refine br_c (fun y2 => br_t rfl (ly_set1 h2 hd (br_f (by decide) (ly_ask h2 hd h5 fun kk2 vv2 sz2 bg2 H2 => ⟨fun e2 => (N e2).elim, fun n2 K2 V2 e2 => br_f (by decide) (br_t y2 ⟨rfl, ir_mk h1 h2 h3 h4 h5⟩)⟩)))) fun y2 => ⟨di, br_t y (br_t rfl (ly_set1 h2 hd (br_f (by decide) (ly_ask h2 hd h5 fun kk2 vv2 sz2 bg2 H2 => ⟨fun e2 => (N e2).elim, fun n2 K2 V2 e2 => br_f (by decide) (br_f y2 ⟨di, br_t ?_ ⟨rfl, ir_mk h1 h2 h3 h4 h5⟩⟩)⟩))))⟩
        show sz2 d ≤ v2
        rw [(Z _ _ _ _ H2).2.2.1]
        exact y
      · obtain ⟨r1, r2, r3⟩ := ln_rh (by omega) H hi
        refine br_f (nI_pos (by omega)) ⟨di, br_f (nI_ge hi (by omega)) (br_f (by decide) (lx_first ?_))⟩
        rw [nI_add]
        refine ⟨r3, ly_set1 h2 hd (br_f (by decide) (ly_ask h2 hd h5 fun kk2 vv2 sz2 bg2 H2 => ⟨fun e2 => (N e2).elim, fun n2 K2 V2 e2 => br_f (by decide) (br_f (nI_pos (by omega)) ⟨di, br_f ?_ ?_⟩)⟩))⟩
        · show ¬ sz2 d ≤ nI i
          rw [(Z _ _ _ _ H2).2.2.1]
          exact nI_ge hi (by omega)
        · obtain ⟨q1, q2, q3⟩ := ln_rh (by omega) (Z _ _ _ _ H2) hi
          rw [ln_fq, nI_add]
          exact ⟨q3, q1.trans r1.symm, ir_mk h1 h2 h3 h4 h5⟩
theorem i_vc_valueOf {k : Nat} {u : SX} {v : SY} (I : i_Rel k u v) (hk : k + 5 ≤ 2560) (v1 : Int32) (v2 : Int32) : wpX_valueOf (fun r => wpY_valueOf (fun r' v' => r' = r ∧ i_Rel (k + 5) u v') v v1 v2) u v1 v2 := by
  obtain ⟨h, s, hk', hv, kk, vv, sz, bg, ki, px, pa, pb, gn, gk, gv, sz', bg', kk', vv', T, rfl, rfl, h1, h2, h3, h4, h5⟩ := I
  rcases lz_ix v1 (n := s) (by omega) with z | ⟨d, hd, rfl⟩
  · unfold wpX_valueOf wpY_valueOf
    dsimp only
    exact lx_set0 z (br_t rfl (ly_ask0 z (br_t rfl ⟨rfl, ir_mk h1 h2 h3 h4 h5⟩)))
  · have di : vp_in (nI d) 16 := vp_in_nI (by omega) (by omega)
    have H := h4 d hd
    unfold wpX_valueOf wpY_valueOf
    dsimp only
    unfold wpX_hasPair
    dsimp only
    rw [nI_clamp (n := d) (by omega)]
    refine lx_set1 h2 hd (br_f (by decide) ⟨di, ?_⟩)
    match e : T d with
    | none =>
      rw [e] at H
      have hb : bg d = 1 := H
      refine br_f (by rw [hb]; decide) (ly_ask h2 hd h5 fun kk2 vv2 sz2 bg2 H2 => ⟨fun _ => br_t rfl ⟨rfl, ir_mk h1 h2 h3 h4 h5⟩, fun n K V e2 => ?_⟩)
      rw [e] at e2
      cases e2
    | some (n, K, V) =>
      rw [e] at H
      have hb : bg d = 0 := H.1
      have hn := H.2.1
      have hz : sz d = nI n := H.2.2.1
      refine br_t hb ?_
      have N : T d = none → False := by
        intro e2
        rw [e] at e2
        cases e2
      have Z : ∀ kk2 vv2 sz2 bg2, (∀ e, e < d + 1 → ln_Ho e (T e) kk2 vv2 sz2 bg2) → ln_Ho d (some (n, K, V)) kk2 vv2 sz2 bg2 := by
        intro kk2 vv2 sz2 bg2 H2
        have Hd := H2 d (by omega)
        rw [e] at Hd
        exact Hd
      rw [hz]
      rcases pk_ix v2 (n := n) (by omega) with y | y | ⟨i, hi, rfl⟩
      · exact br_t y (br_t rfl (ly_ask h2 hd h5 fun kk2 vv2 sz2 bg2 H2 => ⟨fun e2 => (N e2).elim, fun n2 K2 V2 e2 => br_f (by decide) (br_t y ⟨rfl, ir_mk h1 h2 h3 h4 h5⟩)⟩))
      · refine br_c (fun y2 => br_t rfl (ly_ask h2 hd h5 fun kk2 vv2 sz2 bg2 H2 => ⟨fun e2 => (N e2).elim, fun n2 K2 V2 e2 => br_f (by decide) (br_t y2 ⟨rfl, ir_mk h1 h2 h3 h4 h5⟩)⟩)) fun y2 => ⟨di, br_t y (br_t rfl (ly_ask h2 hd h5 fun kk2 vv2 sz2 bg2 H2 => ⟨fun e2 => (N e2).elim, fun n2 K2 V2 e2 => br_f (by decide) (br_f y2 ⟨di, br_t ?_ ⟨rfl, ir_mk h1 h2 h3 h4 h5⟩⟩)⟩))⟩
        show sz2 d ≤ v2
        rw [(Z _ _ _ _ H2).2.2.1]
        exact y
      · obtain ⟨r1, r2, r3⟩ := ln_rh (by omega) H hi
        refine br_f (nI_pos (by omega)) ⟨di, br_f (nI_ge hi (by omega)) (br_f (by decide) (lx_first ?_))⟩
        rw [nI_add]
        refine ⟨r3, ly_ask h2 hd h5 fun kk2 vv2 sz2 bg2 H2 => ⟨fun e2 => (N e2).elim, fun n2 K2 V2 e2 => br_f (by decide) (br_f (nI_pos (by omega)) ⟨di, br_f ?_ ?_⟩)⟩⟩
        · show ¬ sz2 d ≤ nI i
          rw [(Z _ _ _ _ H2).2.2.1]
          exact nI_ge hi (by omega)
        · obtain ⟨q1, q2, q3⟩ := ln_rh (by omega) (Z _ _ _ _ H2) hi
          rw [ln_fq, nI_add]
          exact ⟨q3, q2.trans r2.symm, ir_mk h1 h2 h3 h4 h5⟩
theorem i_vc_total {k : Nat} {u : SX} {v : SY} (I : i_Rel k u v) (hk : k + 5 ≤ 2560) (v1 : Int32) : wpX_total (fun r => wpY_total (fun r' v' => r' = r ∧ i_Rel (k + 5) u v') v v1) u v1 := by
  obtain ⟨h, s, hk', hv, kk, vv, sz, bg, ki, px, pa, pb, gn, gk, gv, sz', bg', kk', vv', T, rfl, rfl, h1, h2, h3, h4, h5⟩ := I
  rcases lz_ix v1 (n := s) (by omega) with z | ⟨d, hd, rfl⟩
  · unfold wpX_total wpY_total
    dsimp only
    exact lx_set0 z (br_t rfl (ly_ask0 z (br_t rfl ⟨rfl, ir_mk h1 h2 h3 h4 h5⟩)))
  · have di : vp_in (nI d) 16 := vp_in_nI (by omega) (by omega)
    have H := h4 d hd
    unfold wpX_total wpY_total
    dsimp only
    rw [nI_clamp (n := d) (by omega)]
    refine lx_set1 h2 hd (br_f (by decide) ⟨di, ?_⟩)
    match e : T d with
    | none =>
      rw [e] at H
      have hb : bg d = 1 := H
      refine br_f (by rw [hb]; decide) (ly_ask h2 hd h5 fun kk2 vv2 sz2 bg2 H2 => ⟨fun _ => br_t rfl ⟨rfl, ir_mk h1 h2 h3 h4 h5⟩, fun n K V e2 => ?_⟩)
      rw [e] at e2
      cases e2
    | some (n, K, V) =>
      rw [e] at H
      have hb : bg d = 0 := H.1
      have hn := H.2.1
      have hz : sz d = nI n := H.2.2.1
      refine br_t hb (lx_first (lx_endh (by omega) H ⟨n + 1, lx_total_l (by omega) H n 0 0 (by omega) ?_⟩))
      refine ly_ask h2 hd h5 fun kk2 vv2 sz2 bg2 H2 => ⟨fun e2 => ?_, fun n2 K2 V2 e2 => br_f (by decide) (nm_r (ln_fq d) ⟨n + 1, ?_⟩)⟩
      · rw [e] at e2
        cases e2
      · have Hd := H2 d (by omega)
        rw [e] at Hd
        exact ly_total_l (by omega) Hd n 0 0 (by omega) ⟨rfl, ir_mk h1 h2 h3 h4 h5⟩
theorem i_vc_lookup {k : Nat} {u : SX} {v : SY} (I : i_Rel k u v) (hk : k + 5 ≤ 2560) (v1 : Int32) (v2 : Int32) : wpX_lookup (fun r => wpY_lookup (fun r' v' => r' = r ∧ i_Rel (k + 5) u v') v v1 v2) u v1 v2 := by
  obtain ⟨h, s, hk', hv, kk, vv, sz, bg, ki, px, pa, pb, gn, gk, gv, sz', bg', kk', vv', T, rfl, rfl, h1, h2, h3, h4, h5⟩ := I
  rcases lz_ix v1 (n := s) (by omega) with z | ⟨d, hd, rfl⟩
  · unfold wpX_lookup wpY_lookup
    dsimp only
    exact lx_set0 z (br_t rfl (ly_ask0 z (br_t rfl ⟨rfl, ir_mk h1 h2 h3 h4 h5⟩)))
  · have di : vp_in (nI d) 16 := vp_in_nI (by omega) (by omega)
    have H := h4 d hd
    unfold wpX_lookup wpY_lookup
    dsimp only
    rw [nI_clamp (n := d) (by omega)]
    refine lx_set1 h2 hd (br_f (by decide) ⟨di, ?_⟩)
    match e : T d with
    | none =>
      rw [e] at H
      have hb : bg d = 1 := H
      refine br_f (by rw [hb]; decide) (ly_ask h2 hd h5 fun kk2 vv2 sz2 bg2 H2 => ⟨fun _ => br_t rfl ⟨rfl, ir_mk h1 h2 h3 h4 h5⟩, fun n K V e2 => ?_⟩)
      rw [e] at e2
      cases e2
    | some (n, K, V) =>
      rw [e] at H
      have hb : bg d = 0 := H.1
      have hn := H.2.1
      have hz : sz d = nI n := H.2.2.1
      refine br_t hb (lx_first (lx_endh (by omega) H ⟨n + 1, lx_lookup_l (by omega) H n 0 0 (by omega) ?_⟩))
      refine ly_ask h2 hd h5 fun kk2 vv2 sz2 bg2 H2 => ⟨fun e2 => ?_, fun n2 K2 V2 e2 => br_f (by decide) (nm_r (ln_fq d) ⟨n + 1, ?_⟩)⟩
      · rw [e] at e2
        cases e2
      · have Hd := H2 d (by omega)
        rw [e] at Hd
        exact ly_lookup_l (by omega) Hd n 0 0 (by omega) ⟨rfl, ir_mk h1 h2 h3 h4 h5⟩
theorem i_vc_keep {k : Nat} {u : SX} {v : SY} (I : i_Rel k u v) (hk : k + 5 ≤ 2560) (v1 : Int32) (v2 : Int32) : wpX_keep (fun r => wpY_keep (fun r' => r' = r ∧ i_Rel (k + 5) u v) v v1 (lw_bz v2)) u v1 (lw_bz v2) := by
  obtain ⟨h, s, hk', hv, kk, vv, sz, bg, ki, px, pa, pb, gn, gk, gv, sz', bg', kk', vv', T, rfl, rfl, h1, h2, h3, h4, h5⟩ := I
  unfold wpX_keep wpY_keep
  dsimp only
  rcases lz_ix v1 (n := s) (by omega) with z | ⟨d, hd, rfl⟩
  · exact lx_set0 z ⟨lz_nb0, ly_set0 z ⟨lz_nb0, ⟨rfl, ir_mk h1 h2 h3 h4 h5⟩⟩⟩
  · exact lx_set1 h2 hd ⟨lz_nb1, ly_set1 h2 hd ⟨lz_nb1, ⟨rfl, ir_mk h1 h2 h3 h4 h5⟩⟩⟩
theorem i_vc_lose {k : Nat} {u : SX} {v : SY} (I : i_Rel k u v) (hk : k + 5 ≤ 2560) (v1 : Int32) : wpX_lose (fun r => wpY_lose (fun r' => r' = r ∧ i_Rel (k + 5) u v) v v1) u v1 := by
  obtain ⟨h, s, hk', hv, kk, vv, sz, bg, ki, px, pa, pb, gn, gk, gv, sz', bg', kk', vv', T, rfl, rfl, h1, h2, h3, h4, h5⟩ := I
  unfold wpX_lose wpY_lose
  dsimp only
  unfold wpY_in
  dsimp only
  by_cases c1 : v1 < 0
  · exact br_t c1 (br_t c1 ⟨lz_nb0, ⟨rfl, ir_mk h1 h2 h3 h4 h5⟩⟩)
  · obtain ⟨j, hj, rfl⟩ := nI_of c1
    by_cases c2 : j < 4
    · exact br_f c1 (br_f (nI_ge (b := 4) c2 (by decide)) (br_f c1 (br_f (nI_nlt (a := 3) (by omega) (by decide)) ⟨lz_nb1, ⟨rfl, ir_mk h1 h2 h3 h4 h5⟩⟩)))
    · exact br_f c1 (br_t (nI_le (a := 4) (by omega) hj) (br_f c1 (br_t (nI_lt (a := 3) (by omega) hj) ⟨lz_nb0, ⟨rfl, ir_mk h1 h2 h3 h4 h5⟩⟩)))
theorem i_vc_level {k : Nat} {u : SX} {v : SY} (I : i_Rel k u v) (hk : k + 5 ≤ 2560) (v1 : Int32) : wpX_level (fun r => wpY_level (fun r' => r' = r ∧ i_Rel (k + 5) u v) v v1) u v1 := by
  obtain ⟨h, s, hk', hv, kk, vv, sz, bg, ki, px, pa, pb, gn, gk, gv, sz', bg', kk', vv', T, rfl, rfl, h1, h2, h3, h4, h5⟩ := I
  unfold wpX_level wpY_level
  dsimp only
  unfold wpY_in
  dsimp only
  by_cases c1 : v1 < 0
  · exact br_t c1 (br_t c1 ⟨lz_nb0, ⟨rfl, ir_mk h1 h2 h3 h4 h5⟩⟩)
  · by_cases c2 : 2 < v1
    · exact br_f c1 (br_t c2 (br_f c1 (br_t c2 ⟨lz_nb0, ⟨rfl, ir_mk h1 h2 h3 h4 h5⟩⟩)))
    · exact br_f c1 (br_f c2 (br_f c1 (br_f c2 ⟨lz_nb1, ⟨rfl, ir_mk h1 h2 h3 h4 h5⟩⟩)))
theorem i_vc_discard {k : Nat} {u : SX} {v : SY} (I : i_Rel k u v) (hk : k + 5 ≤ 2560) : wpX_discard (fun r u' => wpY_discard (fun r' v' => r' = r ∧ i_Rel (k + 5) u' v') v) u := by
  obtain ⟨h, s, hk', hv, kk, vv, sz, bg, ki, px, pa, pb, gn, gk, gv, sz', bg', kk', vv', T, rfl, rfl, h1, h2, h3, h4, h5⟩ := I
  exact ⟨rfl, ir_mk (h := 0) (by omega) h2 (fun i hi => absurd hi (by omega)) h4 h5⟩
theorem i_vc_drop {k : Nat} {u : SX} {v : SY} (I : i_Rel k u v) (hk : k + 5 ≤ 2560) : wpX_drop (fun r u' => wpY_drop (fun r' v' => r' = r ∧ i_Rel (k + 5) u' v') v) u := by
  obtain ⟨h, s, hk', hv, kk, vv, sz, bg, ki, px, pa, pb, gn, gk, gv, sz', bg', kk', vv', T, rfl, rfl, h1, h2, h3, h4, h5⟩ := I
  unfold wpX_drop wpY_drop
  dsimp only
  match s, h2, h4, h5 with
  | 0, h2, h4, h5 => exact br_t rfl (br_t rfl ⟨rfl, ir_mk h1 h2 h3 h4 h5⟩)
  | s + 1, h2, h4, h5 =>
    have ne : ¬ nI (s + 1) = 0 := nI_ne0 (by omega) (by omega)
    exact br_f ne (nm_r (nI_pred s) (br_f ne (nm_r (nI_pred s) ⟨rfl, ir_mk h1 (by omega) h3 (fun e he => h4 e (by omega)) (fun e he => h5 e (by omega))⟩)))
end
