/-- what a data set holds: how many pairs, their keys, their values -/
abbrev ln_C : Type := Nat × (Nat → Int32) × (Nat → Int32)
abbrev ln_D : Type := Option ln_C
abbrev ln_L : Type := List (Int32 × Int32)
abbrev ln_F : Type := Nat → Int32
/-- the place at which a pair is put in, looked for from the end -/
def ln_po (k v : Int32) (K V : Nat → Int32) : Nat → Nat
  | 0 => 0
  | j + 1 => if k < K j ∨ (k = K j ∧ v < V j) then ln_po k v K V j else j + 1
def ln_sh (q : Nat) (x : Int32) (K : Nat → Int32) : Nat → Int32 := fun i => if i < q then K i else if i = q then x else K (i - 1)
def ln_ap (D : ln_D) (p : Int32 × Int32) : ln_D := match D with
  | none => none
  | some (n, K, V) => if n < 48 then some (n + 1, ln_sh (ln_po p.1 p.2 K V n) p.1 K, ln_sh (ln_po p.1 p.2 K V n) p.2 V) else none
def ln_fo (D : ln_D) (l : ln_L) : ln_D := l.foldl ln_ap D
def ln_sq (g : Nat → ln_L) : Nat → Nat → ln_L
  | 0, _ => []
  | m + 1, i => g i ++ ln_sq g m (i + 1)
def ln_e0 : ln_D := some (0, (fun _ => 0), (fun _ => 0))
/-- block d is being made, and holds D so far -/
def ln_Bu (d : Nat) (D : ln_D) (kk vv sz bg : Nat → Int32) : Prop := match D with
  | none => bg d = 1 ∧ sz d = 48
  | some (n, K, V) => bg d = 0 ∧ n ≤ 48 ∧ sz d = nI n ∧ ∀ i, i < n → kk (48 * d + i) = K i ∧ vv (48 * d + i) = V i
/-- block d holds D -/
def ln_Ho (d : Nat) (D : ln_D) (kk vv sz bg : Nat → Int32) : Prop := match D with
  | none => bg d = 1
  | some (n, K, V) => bg d = 0 ∧ n ≤ 48 ∧ sz d = nI n ∧ ∀ i, i < n → kk (48 * d + i) = K i ∧ vv (48 * d + i) = V i
def ln_Tb (T : Nat → ln_D) (s : Nat) (D : ln_D) (kk vv sz bg : Nat → Int32) : Prop :=
  (∀ e, e < s → ln_Ho e (T e) kk vv sz bg) ∧ ln_Bu s D kk vv sz bg
theorem ln_Bu_Ho {d : Nat} {D : ln_D} {kk vv sz bg : Nat → Int32} (h : ln_Bu d D kk vv sz bg) : ln_Ho d D kk vv sz bg := by
  match D, h with
  | none, h => exact h.1
  | some (n, K, V), h => exact h
theorem ln_fo_app (D : ln_D) (a b : ln_L) : ln_fo D (a ++ b) = ln_fo (ln_fo D a) b := List.foldl_append
theorem ln_fo_1 (D : ln_D) (p : Int32 × Int32) : ln_fo D [p] = ln_ap D p := rfl
theorem ln_fo_0 (D : ln_D) : ln_fo D [] = D := rfl
/-- the walk over a block, of either side -/
theorem ln_walk {T : Nat → ln_D} {s : Nat} (W : Nat → Nat → (Nat → Int32) → (Nat → Int32) → (Nat → Int32) → (Nat → Int32) → Prop) (Q : (Nat → Int32) → (Nat → Int32) → (Nat → Int32) → (Nat → Int32) → Prop) (n : Nat) (g : Nat → ln_L)
    (hx : ∀ f kk vv sz bg D, ln_Tb T s D kk vv sz bg → Q kk vv sz bg → W (f + 1) n kk vv sz bg)
    (hs : ∀ f i kk vv sz bg D, i < n → ln_Tb T s D kk vv sz bg → (∀ kk' vv' sz' bg', ln_Tb T s (ln_fo D (g i)) kk' vv' sz' bg' → W f (i + 1) kk' vv' sz' bg') → W (f + 1) i kk vv sz bg) :
    ∀ m i D kk vv sz bg, i + m = n → ln_Tb T s D kk vv sz bg → (∀ kk' vv' sz' bg', ln_Tb T s (ln_fo D (ln_sq g m i)) kk' vv' sz' bg' → Q kk' vv' sz' bg') → W (m + 1) i kk vv sz bg := by
  intro m
  induction m with
  | zero =>
    intro i D kk vv sz bg hi H P
    have e : i = n := by omega
    subst e
    exact hx _ _ _ _ _ D H (P _ _ _ _ H)
  | succ m ih =>
    intro i D kk vv sz bg hi H P
    refine hs _ _ _ _ _ _ D (by omega) H fun kk' vv' sz' bg' H' => ?_
    refine ih (i + 1) _ kk' vv' sz' bg' (by omega) H' fun kk2 vv2 sz2 bg2 H2 => ?_
    refine P _ _ _ _ ?_
    show ln_Tb T s (ln_fo D (g i ++ ln_sq g m (i + 1))) kk2 vv2 sz2 bg2
    rw [ln_fo_app]
    exact H2
/-- while a pair is put in: the places from j on have been moved one up -/
def ln_In (s n j : Nat) (K V kk0 vv0 kk vv : Nat → Int32) : Prop :=
  (∀ i, i < j → kk (48 * s + i) = K i ∧ vv (48 * s + i) = V i) ∧ (∀ i, j < i → i ≤ n → kk (48 * s + i) = K (i - 1) ∧ vv (48 * s + i) = V (i - 1)) ∧ (∀ p, p < 48 * s → kk p = kk0 p ∧ vv p = vv0 p)
theorem ln_In_s {s n j : Nat} {K V kk0 vv0 kk vv : Nat → Int32} (h : ln_In s n (j + 1) K V kk0 vv0 kk vv) (hj : j + 1 ≤ n) :
    ln_In s n j K V kk0 vv0 (upd kk (48 * s + (j + 1)) (kk (48 * s + j))) (upd vv (48 * s + (j + 1)) (vv (48 * s + j))) := by
  refine ⟨fun i hi => ?_, fun i hi hi2 => ?_, fun p hp => ?_⟩
  · rw [pk_un (by omega), pk_un (by omega)]
    exact h.1 i (by omega)
  · by_cases e : i = j + 1
    · subst e
      rw [pk_us, pk_us]
      exact h.1 j (by omega)
    · rw [pk_un (by omega), pk_un (by omega)]
      exact h.2.1 i (by omega) hi2
  · rw [pk_un (by omega), pk_un (by omega)]
    exact h.2.2 p hp
theorem ln_po_le (k v : Int32) (K V : Nat → Int32) : ∀ n, ln_po k v K V n ≤ n := by
  intro n
  induction n with
  | zero => exact Nat.le_refl _
  | succ n ih =>
    unfold ln_po
    split
    · omega
    · exact Nat.le_refl _
theorem ln_Ho_fr {e s : Nat} {D : ln_D} {kk vv sz bg kk' vv' sz' bg' : Nat → Int32} (he : e < s) (h : ln_Ho e D kk vv sz bg)
    (hp : ∀ p, p < 48 * s → kk' p = kk p ∧ vv' p = vv p) (hz : sz' e = sz e) (hb : bg' e = bg e) : ln_Ho e D kk' vv' sz' bg' := by
  match D, h with
  | none, h => exact hb.trans h
  | some (n, K, V), h =>
    obtain ⟨h1, h2, h3, h4⟩ := h
    refine ⟨hb.trans h1, h2, hz.trans h3, fun i hi => ?_⟩
    have q := hp (48 * e + i) (by omega)
    rw [q.1, q.2]
    exact h4 i hi
theorem ln_In_e {T : Nat → ln_D} {s n q : Nat} {K V kk0 vv0 kk vv sz bg : Nat → Int32} {k v : Int32} (H : ln_Tb T s (some (n, K, V)) kk0 vv0 sz bg) (hn : n < 48)
    (h : ln_In s n q K V kk0 vv0 kk vv) (hq : ln_po k v K V n = q) :
    ln_Tb T s (ln_ap (some (n, K, V)) (k, v)) (upd kk (48 * s + q) k) (upd vv (48 * s + q) v) (upd sz s (sz s + 1)) bg := by
  have hle : q ≤ n := by rw [← hq]; exact ln_po_le k v K V n
  refine ⟨fun e he => ?_, ?_⟩
  · refine ln_Ho_fr he (H.1 e he) (fun p hp => ?_) (pk_un (by omega)) rfl
    rw [pk_un (by omega), pk_un (by omega)]
    exact h.2.2 p hp
  · obtain ⟨h1, h2, h3, h4⟩ := H.2
    show ln_Bu s (if n < 48 then some (n + 1, ln_sh (ln_po k v K V n) k K, ln_sh (ln_po k v K V n) v V) else none) _ _ _ _
    rw [if_pos hn, hq]
    refine ⟨h1, by omega, ?_, fun i hi => ?_⟩
    · rw [pk_us, h3, nI_1]
    · unfold ln_sh
      by_cases c1 : i < q
      · rw [if_pos c1, if_pos c1, pk_un (by omega), pk_un (by omega)]
        exact h.1 i c1
      · by_cases c2 : i = q
        · rw [if_neg c1, if_neg c1, if_pos c2, if_pos c2, c2, pk_us, pk_us]
          exact ⟨rfl, rfl⟩
        · rw [if_neg c1, if_neg c1, if_neg c2, if_neg c2, pk_un (by omega), pk_un (by omega)]
          exact h.2.1 i (by omega) (by omega)
theorem ln_In_0 {T : Nat → ln_D} {s n : Nat} {K V kk vv sz bg : Nat → Int32} (H : ln_Tb T s (some (n, K, V)) kk vv sz bg) : ln_In s n n K V kk vv kk vv :=
  ⟨H.2.2.2.2, fun i h1 h2 => absurd h1 (by omega), fun _ _ => ⟨rfl, rfl⟩⟩
/-- a pair more for a block that is big already -/
theorem ln_Tb_full {T : Nat → ln_D} {s : Nat} {D : ln_D} {kk vv sz bg : Nat → Int32} {p : Int32 × Int32} (H : ln_Tb T s D kk vv sz bg) (hf : ¬ sz s < 48) :
    ln_Tb T s (ln_ap D p) kk vv sz (upd bg s 1) := by
  refine ⟨fun e he => ln_Ho_fr he (H.1 e he) (fun _ _ => ⟨rfl, rfl⟩) rfl (pk_un (by omega)), ?_⟩
  match D, H with
  | none, H => exact ⟨pk_us, H.2.2⟩
  | some (n, K, V), H =>
    obtain ⟨h1, h2, h3, h4⟩ := H.2
    have hn : n = 48 := by
      rw [h3] at hf
      have : ¬ n < 48 := fun z => hf (nI_lt (b := 48) z (by decide))
      omega
    show ln_Bu s (if n < 48 then some (n + 1, ln_sh (ln_po p.1 p.2 K V n) p.1 K, ln_sh (ln_po p.1 p.2 K V n) p.2 V) else none) _ _ _ _
    rw [if_neg (by omega)]
    refine ⟨pk_us, ?_⟩
    rw [h3, hn]
    rfl
theorem ln_fp (s : Nat) : nI s * 48 = nI (48 * s) := by
  rw [show (48 : Int32) = nI 48 from rfl, pk_mul, Nat.mul_comm]
theorem ln_fq (s : Nat) : 48 * nI s = nI (48 * s) := by
  rw [show (48 : Int32) = nI 48 from rfl, pk_mul]
theorem ln_fr (s : Nat) : 24 * nI s = nI (24 * s) := by
  rw [show (24 : Int32) = nI 24 from rfl, pk_mul]
theorem ln_sz {T : Nat → ln_D} {s x n : Nat} {D : ln_D} {K V kk vv sz bg : Nat → Int32} (H : ln_Tb T s D kk vv sz bg) (hx : x < s) (hT : T x = some (n, K, V)) : bg x = 0 ∧ n ≤ 48 ∧ sz x = nI n := by
  have h := H.1 x hx
  rw [hT] at h
  exact ⟨h.1, h.2.1, h.2.2.1⟩
theorem ln_rd {T : Nat → ln_D} {s x n i : Nat} {D : ln_D} {K V kk vv sz bg : Nat → Int32} (hs : s ≤ 16) (H : ln_Tb T s D kk vv sz bg) (hx : x < s) (hT : T x = some (n, K, V)) (hi : i < n) :
    kk (nI (48 * x + i)).toNatClampNeg = K i ∧ vv (nI (48 * x + i)).toNatClampNeg = V i ∧ vp_in (nI (48 * x + i)) 768 := by
  have h := H.1 x hx
  rw [hT] at h
  obtain ⟨h1, h2, h3, h4⟩ := h
  rw [nI_clamp (by omega)]
  exact ⟨(h4 i hi).1, (h4 i hi).2, vp_in_nI (by omega) (by omega)⟩
