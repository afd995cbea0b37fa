theorem lz_nb0 : narrow .boolean (.int 0) = .int 0 := by decide
theorem lz_nb1 : narrow .boolean (.int 1) = .int 1 := by decide
section
variable {s : Nat} {kk vv sz bg hk hv ki px pa pb gn gk gv : Nat → Int32} {h nn hh x : Int32} {post : Int32 → Prop}
theorem lx_set0 (hd : x < 0 ∨ nI s ≤ x) (P : post 0) : wpX_isSet post (h, nI s, hk, hv, kk, vv, sz, bg) x := by
  rcases hd with z | z
  · exact br_t z P
  · exact br_c (fun _ => P) fun _ => br_t z P
theorem lx_set1 {d : Nat} (hs : s ≤ 16) (hd : d < s) (P : post 1) : wpX_isSet post (h, nI s, hk, hv, kk, vv, sz, bg) (nI d) :=
  br_f (nI_pos (by omega)) (br_f (nI_ge hd (by omega)) P)
theorem ly_set0 (hd : x < 0 ∨ nI s ≤ x) (P : post 0) : wpY_isSet post (hh, nI s, hk, hv, ki, px, pa, pb, gn, gk, gv, sz, bg, kk, vv) x := by
  rcases hd with z | z
  · exact br_t z P
  · exact br_c (fun _ => P) fun _ => br_t z P
theorem ly_set1 {d : Nat} (hs : s ≤ 16) (hd : d < s) (P : post 1) : wpY_isSet post (hh, nI s, hk, hv, ki, px, pa, pb, gn, gk, gv, sz, bg, kk, vv) (nI d) :=
  br_f (nI_pos (by omega)) (br_f (nI_ge hd (by omega)) P)
end
theorem lz_ix (x : Int32) {n : Nat} (hn : n < 2 ^ 31) : (x < 0 ∨ nI n ≤ x) ∨ ∃ j : Nat, j < n ∧ x = nI j := by
  rcases pk_ix x hn with z | z | z
  · exact Or.inl (Or.inl z)
  · exact Or.inl (Or.inr z)
  · exact Or.inr z
theorem lz_rng (a lo hi : Int32) (n : Nat) (hl : 0 ≤ lo) (hh : hi = nI n) (hn : n < 2 ^ 31) : (∀ post : Int32 → Prop, post 0 → (a < lo → post 0) ∧ (¬ a < lo → ((hi < a → post 0) ∧ (¬ hi < a → post 1)))) ∨
    ((∃ t, t ≤ n ∧ a = nI t) ∧ ∀ post : Int32 → Prop, post 1 → (a < lo → post 0) ∧ (¬ a < lo → ((hi < a → post 0) ∧ (¬ hi < a → post 1)))) := by
  by_cases c1 : a < lo
  · exact Or.inl fun post P => br_t c1 P
  · by_cases c2 : hi < a
    · exact Or.inl fun post P => br_f c1 (br_t c2 P)
    · refine Or.inr ⟨?_, fun post P => br_f c1 (br_f c2 P)⟩
      have c3 : ¬ a < 0 := fun z => c1 (by
        rw [Int32.lt_iff_toInt_lt] at z ⊢
        rw [Int32.le_iff_toInt_le] at hl
        omega)
      obtain ⟨t, ht, rfl⟩ := nI_of c3
      refine ⟨t, ?_, rfl⟩
      by_cases c4 : t ≤ n
      · exact c4
      · exact absurd (by rw [hh]; exact nI_lt (by omega) ht) c2
section
variable {s : Nat} {kk vv sz bg hk hv ki px pa pb gn gk gv sz2 bg2 kk2 vv2 : Nat → Int32} {h hh : Int32}
theorem lz_fit (hs : s ≤ 16) (o x a : Int32) : ∃ r : Int32, (r = 0 ∨ (r = 1 ∧ ln_Ok s o x a)) ∧ (∀ post : Int32 → Prop, post r → wpX_operandsFit post (h, nI s, hk, hv, kk, vv, sz, bg) o x a) ∧
    (∀ post : Int32 → Prop, post r → wpY_fits post (hh, nI s, hk, hv, ki, px, pa, pb, gn, gk, gv, sz2, bg2, kk2, vv2) o x a) := by
  unfold wpX_operandsFit wpY_fits
  dsimp only
  by_cases c1 : o < 0
  · refine ⟨0, Or.inl rfl, fun post P => br_f ?_ (br_t c1 P), fun post P => br_t c1 (br_t rfl P)⟩
    rintro rfl
    exact absurd c1 (by decide)
  · by_cases c2 : 11 < o
    · refine ⟨0, Or.inl rfl, fun post P => br_f ?_ (br_f c1 (br_t c2 P)), fun post P => br_f c1 (br_t c2 (br_t rfl P))⟩
      rintro rfl
      exact absurd c2 (by decide)
    · obtain ⟨oo, ho, rfl⟩ := nI_of c1
      have ho2 : oo ≤ 11 := by
        by_cases c3 : oo ≤ 11
        · exact c3
        · exact absurd (nI_lt (a := 11) (by omega) ho) c2
      match oo, ho2 with
      | 0, _ => exact ⟨1, Or.inr ⟨rfl, Or.inl rfl⟩, fun post P => br_t rfl P, fun post P => br_f (by decide) (br_f (by decide) (br_f (by decide) (br_t (by decide) (br_f (by decide) (br_f (by decide) (br_f (by decide) (br_f (by decide) (br_f (by decide) (br_f (by decide) P)))))))))⟩
      | 1, _ =>
        rcases lz_ix x (n := s) (by omega) with z | ⟨y, hy, rfl⟩
        · exact ⟨0, Or.inl rfl, fun post P => br_f (by decide) (br_f (by decide) (br_f (by decide) (lx_set0 z (br_t rfl P)))), fun post P => br_f (by decide) (br_f (by decide) (br_f (by decide) (br_f (by decide) (ly_set0 z (br_t rfl P)))))⟩
        · exact ⟨1, Or.inr ⟨rfl, Or.inr ⟨y, hy, rfl, Or.inl (Or.inl rfl)⟩⟩, fun post P => br_f (by decide) (br_f (by decide) (br_f (by decide) (lx_set1 hs hy (br_f (by decide) (br_f (by decide) (br_f (by decide) (br_f (by decide) (br_t rfl (br_f (by decide) (br_f (by decide) (br_f (by decide) (P)))))))))))), fun post P => br_f (by decide) (br_f (by decide) (br_f (by decide) (br_f (by decide) (ly_set1 hs hy (br_f (by decide) (br_f (by decide) (br_f (by decide) (br_f (by decide) (br_f (by decide) (br_f (by decide) (br_f (by decide) (P))))))))))))⟩
      | 2, _ =>
        rcases lz_ix x (n := s) (by omega) with z | ⟨y, hy, rfl⟩
        · exact ⟨0, Or.inl rfl, fun post P => br_f (by decide) (br_f (by decide) (br_f (by decide) (lx_set0 z (br_t rfl P)))), fun post P => br_f (by decide) (br_f (by decide) (br_f (by decide) (br_f (by decide) (ly_set0 z (br_t rfl P)))))⟩
        · exact ⟨1, Or.inr ⟨rfl, Or.inr ⟨y, hy, rfl, Or.inl (Or.inr (Or.inl rfl))⟩⟩, fun post P => br_f (by decide) (br_f (by decide) (br_f (by decide) (lx_set1 hs hy (br_f (by decide) (br_f (by decide) (br_f (by decide) (br_f (by decide) (br_t rfl (br_f (by decide) (br_f (by decide) (br_f (by decide) (P)))))))))))), fun post P => br_f (by decide) (br_f (by decide) (br_f (by decide) (br_f (by decide) (ly_set1 hs hy (br_f (by decide) (br_f (by decide) (br_f (by decide) (br_f (by decide) (br_f (by decide) (br_f (by decide) (br_f (by decide) (P))))))))))))⟩
      | 3, _ =>
        rcases lz_ix x (n := s) (by omega) with z | ⟨y, hy, rfl⟩
        · exact ⟨0, Or.inl rfl, fun post P => br_f (by decide) (br_f (by decide) (br_f (by decide) (lx_set0 z (br_t rfl P)))), fun post P => br_f (by decide) (br_f (by decide) (br_f (by decide) (br_f (by decide) (ly_set0 z (br_t rfl P)))))⟩
        · exact ⟨1, Or.inr ⟨rfl, Or.inr ⟨y, hy, rfl, Or.inl (Or.inr (Or.inr (Or.inl rfl)))⟩⟩, fun post P => br_f (by decide) (br_f (by decide) (br_f (by decide) (lx_set1 hs hy (br_f (by decide) (br_f (by decide) (br_f (by decide) (br_f (by decide) (br_t rfl (br_f (by decide) (br_f (by decide) (br_f (by decide) (P)))))))))))), fun post P => br_f (by decide) (br_f (by decide) (br_f (by decide) (br_f (by decide) (ly_set1 hs hy (br_f (by decide) (br_f (by decide) (br_f (by decide) (br_f (by decide) (br_f (by decide) (br_f (by decide) (br_f (by decide) (P))))))))))))⟩
      | 4, _ =>
        rcases lz_ix x (n := s) (by omega) with z | ⟨y, hy, rfl⟩
        · exact ⟨0, Or.inl rfl, fun post P => br_f (by decide) (br_f (by decide) (br_f (by decide) (lx_set0 z (br_t rfl P)))), fun post P => br_f (by decide) (br_f (by decide) (br_f (by decide) (br_f (by decide) (ly_set0 z (br_t rfl P)))))⟩
        · rcases lz_rng a 0 3 3 (by decide) rfl (by omega) with z | ⟨ht, z⟩
          · exact ⟨0, Or.inl rfl, fun post P => br_f (by decide) (br_f (by decide) (br_f (by decide) (lx_set1 hs hy (br_f (by decide) (br_f (by decide) (br_f (by decide) (br_f (by decide) (br_t rfl (br_t rfl (z post P)))))))))), fun post P => br_f (by decide) (br_f (by decide) (br_f (by decide) (br_f (by decide) (ly_set1 hs hy (br_f (by decide) (br_f (by decide) (br_f (by decide) (br_f (by decide) (br_t rfl (z (fun r => narrow .boolean (.int r) = .int r ∧ post r) ⟨lz_nb0, P⟩))))))))))⟩
          · exact ⟨1, Or.inr ⟨rfl, Or.inr ⟨y, hy, rfl, Or.inr (Or.inl ⟨Or.inl rfl, ht⟩)⟩⟩, fun post P => br_f (by decide) (br_f (by decide) (br_f (by decide) (lx_set1 hs hy (br_f (by decide) (br_f (by decide) (br_f (by decide) (br_f (by decide) (br_t rfl (br_t rfl (z post P)))))))))), fun post P => br_f (by decide) (br_f (by decide) (br_f (by decide) (br_f (by decide) (ly_set1 hs hy (br_f (by decide) (br_f (by decide) (br_f (by decide) (br_f (by decide) (br_t rfl (z (fun r => narrow .boolean (.int r) = .int r ∧ post r) ⟨lz_nb1, P⟩))))))))))⟩
      | 5, _ =>
        rcases lz_ix x (n := s) (by omega) with z | ⟨y, hy, rfl⟩
        · exact ⟨0, Or.inl rfl, fun post P => br_f (by decide) (br_f (by decide) (br_f (by decide) (lx_set0 z (br_t rfl P)))), fun post P => br_f (by decide) (br_f (by decide) (br_f (by decide) (br_f (by decide) (ly_set0 z (br_t rfl P)))))⟩
        · rcases lz_ix a (n := s) (by omega) with z | ⟨z, hz, rfl⟩
          · exact ⟨0, Or.inl rfl, fun post P => br_f (by decide) (br_f (by decide) (br_f (by decide) (lx_set1 hs hy (br_f (by decide) (br_t rfl (br_f (by decide) (lx_set0 z ⟨lz_nb0, P⟩))))))), fun post P => br_f (by decide) (br_f (by decide) (br_f (by decide) (br_f (by decide) (ly_set1 hs hy (br_f (by decide) (br_t rfl (ly_set0 z ⟨lz_nb0, P⟩)))))))⟩
          · exact ⟨1, Or.inr ⟨rfl, Or.inr ⟨y, hy, rfl, Or.inr (Or.inr ⟨Or.inl rfl, z, hz, rfl⟩)⟩⟩, fun post P => br_f (by decide) (br_f (by decide) (br_f (by decide) (lx_set1 hs hy (br_f (by decide) (br_t rfl (br_f (by decide) (lx_set1 hs hz ⟨lz_nb1, P⟩))))))), fun post P => br_f (by decide) (br_f (by decide) (br_f (by decide) (br_f (by decide) (ly_set1 hs hy (br_f (by decide) (br_t rfl (ly_set1 hs hz ⟨lz_nb1, P⟩)))))))⟩
      | 6, _ =>
        rcases lz_ix x (n := s) (by omega) with z | ⟨y, hy, rfl⟩
        · exact ⟨0, Or.inl rfl, fun post P => br_f (by decide) (br_f (by decide) (br_f (by decide) (lx_set0 z (br_t rfl P)))), fun post P => br_f (by decide) (br_f (by decide) (br_f (by decide) (br_f (by decide) (ly_set0 z (br_t rfl P)))))⟩
        · rcases lz_rng a 0 3 3 (by decide) rfl (by omega) with z | ⟨ht, z⟩
          · exact ⟨0, Or.inl rfl, fun post P => br_f (by decide) (br_f (by decide) (br_f (by decide) (lx_set1 hs hy (br_f (by decide) (br_f (by decide) (br_f (by decide) (br_f (by decide) (br_t rfl (br_f (by decide) (br_t rfl (z post P))))))))))), fun post P => br_f (by decide) (br_f (by decide) (br_f (by decide) (br_f (by decide) (ly_set1 hs hy (br_f (by decide) (br_f (by decide) (br_f (by decide) (br_f (by decide) (br_f (by decide) (br_t rfl (z (fun r => narrow .boolean (.int r) = .int r ∧ post r) ⟨lz_nb0, P⟩)))))))))))⟩
          · exact ⟨1, Or.inr ⟨rfl, Or.inr ⟨y, hy, rfl, Or.inr (Or.inl ⟨Or.inr rfl, ht⟩)⟩⟩, fun post P => br_f (by decide) (br_f (by decide) (br_f (by decide) (lx_set1 hs hy (br_f (by decide) (br_f (by decide) (br_f (by decide) (br_f (by decide) (br_t rfl (br_f (by decide) (br_t rfl (z post P))))))))))), fun post P => br_f (by decide) (br_f (by decide) (br_f (by decide) (br_f (by decide) (ly_set1 hs hy (br_f (by decide) (br_f (by decide) (br_f (by decide) (br_f (by decide) (br_f (by decide) (br_t rfl (z (fun r => narrow .boolean (.int r) = .int r ∧ post r) ⟨lz_nb1, P⟩)))))))))))⟩
      | 7, _ =>
        rcases lz_ix x (n := s) (by omega) with z | ⟨y, hy, rfl⟩
        · exact ⟨0, Or.inl rfl, fun post P => br_f (by decide) (br_f (by decide) (br_f (by decide) (lx_set0 z (br_t rfl P)))), fun post P => br_f (by decide) (br_f (by decide) (br_f (by decide) (br_f (by decide) (ly_set0 z (br_t rfl P)))))⟩
        · rcases lz_ix a (n := s) (by omega) with z | ⟨z, hz, rfl⟩
          · exact ⟨0, Or.inl rfl, fun post P => br_f (by decide) (br_f (by decide) (br_f (by decide) (lx_set1 hs hy (br_f (by decide) (br_f (by decide) (br_t rfl (br_f (by decide) (lx_set0 z ⟨lz_nb0, P⟩)))))))), fun post P => br_f (by decide) (br_f (by decide) (br_f (by decide) (br_f (by decide) (ly_set1 hs hy (br_f (by decide) (br_f (by decide) (br_t rfl (ly_set0 z ⟨lz_nb0, P⟩))))))))⟩
          · exact ⟨1, Or.inr ⟨rfl, Or.inr ⟨y, hy, rfl, Or.inr (Or.inr ⟨Or.inr (Or.inl rfl), z, hz, rfl⟩)⟩⟩, fun post P => br_f (by decide) (br_f (by decide) (br_f (by decide) (lx_set1 hs hy (br_f (by decide) (br_f (by decide) (br_t rfl (br_f (by decide) (lx_set1 hs hz ⟨lz_nb1, P⟩)))))))), fun post P => br_f (by decide) (br_f (by decide) (br_f (by decide) (br_f (by decide) (ly_set1 hs hy (br_f (by decide) (br_f (by decide) (br_t rfl (ly_set1 hs hz ⟨lz_nb1, P⟩))))))))⟩
      | 8, _ =>
        rcases lz_ix x (n := s) (by omega) with z | ⟨y, hy, rfl⟩
        · exact ⟨0, Or.inl rfl, fun post P => br_f (by decide) (br_f (by decide) (br_f (by decide) (lx_set0 z (br_t rfl P)))), fun post P => br_f (by decide) (br_f (by decide) (br_f (by decide) (br_f (by decide) (ly_set0 z (br_t rfl P)))))⟩
        · exact ⟨1, Or.inr ⟨rfl, Or.inr ⟨y, hy, rfl, Or.inl (Or.inr (Or.inr (Or.inr (Or.inl rfl))))⟩⟩, fun post P => br_f (by decide) (br_f (by decide) (br_f (by decide) (lx_set1 hs hy (br_f (by decide) (br_f (by decide) (br_f (by decide) (br_f (by decide) (br_t rfl (br_f (by decide) (br_f (by decide) (br_f (by decide) (P)))))))))))), fun post P => br_f (by decide) (br_f (by decide) (br_f (by decide) (br_f (by decide) (ly_set1 hs hy (br_f (by decide) (br_f (by decide) (br_f (by decide) (br_f (by decide) (br_f (by decide) (br_f (by decide) (br_f (by decide) (P))))))))))))⟩
      | 9, _ =>
        rcases lz_ix x (n := s) (by omega) with z | ⟨y, hy, rfl⟩
        · exact ⟨0, Or.inl rfl, fun post P => br_f (by decide) (br_f (by decide) (br_f (by decide) (lx_set0 z (br_t rfl P)))), fun post P => br_f (by decide) (br_f (by decide) (br_f (by decide) (br_f (by decide) (ly_set0 z (br_t rfl P)))))⟩
        · rcases lz_ix a (n := s) (by omega) with z | ⟨z, hz, rfl⟩
          · exact ⟨0, Or.inl rfl, fun post P => br_f (by decide) (br_f (by decide) (br_f (by decide) (lx_set1 hs hy (br_f (by decide) (br_f (by decide) (br_f (by decide) (br_t rfl (br_f (by decide) (lx_set0 z ⟨lz_nb0, P⟩))))))))), fun post P => br_f (by decide) (br_f (by decide) (br_f (by decide) (br_f (by decide) (ly_set1 hs hy (br_f (by decide) (br_f (by decide) (br_f (by decide) (br_t rfl (ly_set0 z ⟨lz_nb0, P⟩)))))))))⟩
          · exact ⟨1, Or.inr ⟨rfl, Or.inr ⟨y, hy, rfl, Or.inr (Or.inr ⟨Or.inr (Or.inr rfl), z, hz, rfl⟩)⟩⟩, fun post P => br_f (by decide) (br_f (by decide) (br_f (by decide) (lx_set1 hs hy (br_f (by decide) (br_f (by decide) (br_f (by decide) (br_t rfl (br_f (by decide) (lx_set1 hs hz ⟨lz_nb1, P⟩))))))))), fun post P => br_f (by decide) (br_f (by decide) (br_f (by decide) (br_f (by decide) (ly_set1 hs hy (br_f (by decide) (br_f (by decide) (br_f (by decide) (br_t rfl (ly_set1 hs hz ⟨lz_nb1, P⟩)))))))))⟩
      | 10, _ =>
        rcases lz_ix x (n := s) (by omega) with z | ⟨y, hy, rfl⟩
        · exact ⟨0, Or.inl rfl, fun post P => br_f (by decide) (br_f (by decide) (br_f (by decide) (lx_set0 z (br_t rfl P)))), fun post P => br_f (by decide) (br_f (by decide) (br_f (by decide) (br_f (by decide) (ly_set0 z (br_t rfl P)))))⟩
        · rcases lz_rng a 1 8 8 (by decide) rfl (by omega) with z | ⟨ht, z⟩
          · exact ⟨0, Or.inl rfl, fun post P => br_f (by decide) (br_f (by decide) (br_f (by decide) (lx_set1 hs hy (br_f (by decide) (br_f (by decide) (br_f (by decide) (br_f (by decide) (br_t rfl (br_f (by decide) (br_f (by decide) (br_t rfl (z post P)))))))))))), fun post P => br_f (by decide) (br_f (by decide) (br_f (by decide) (br_f (by decide) (ly_set1 hs hy (br_f (by decide) (br_f (by decide) (br_f (by decide) (br_f (by decide) (br_f (by decide) (br_f (by decide) (br_t rfl (z (fun r => (r = 0 → post 0) ∧ (¬ r = 0 → post 1)) (br_t rfl P)))))))))))))⟩
          · exact ⟨1, Or.inr ⟨rfl, Or.inr ⟨y, hy, rfl, Or.inl (Or.inr (Or.inr (Or.inr (Or.inr (Or.inl rfl)))))⟩⟩, fun post P => br_f (by decide) (br_f (by decide) (br_f (by decide) (lx_set1 hs hy (br_f (by decide) (br_f (by decide) (br_f (by decide) (br_f (by decide) (br_t rfl (br_f (by decide) (br_f (by decide) (br_t rfl (z post P)))))))))))), fun post P => br_f (by decide) (br_f (by decide) (br_f (by decide) (br_f (by decide) (ly_set1 hs hy (br_f (by decide) (br_f (by decide) (br_f (by decide) (br_f (by decide) (br_f (by decide) (br_f (by decide) (br_t rfl (z (fun r => (r = 0 → post 0) ∧ (¬ r = 0 → post 1)) (br_f (by decide) P)))))))))))))⟩
      | 11, _ =>
        rcases lz_ix x (n := s) (by omega) with z | ⟨y, hy, rfl⟩
        · exact ⟨0, Or.inl rfl, fun post P => br_f (by decide) (br_f (by decide) (br_f (by decide) (lx_set0 z (br_t rfl P)))), fun post P => br_f (by decide) (br_f (by decide) (br_f (by decide) (br_f (by decide) (ly_set0 z (br_t rfl P)))))⟩
        · exact ⟨1, Or.inr ⟨rfl, Or.inr ⟨y, hy, rfl, Or.inl (Or.inr (Or.inr (Or.inr (Or.inr (Or.inr rfl)))))⟩⟩, fun post P => br_f (by decide) (br_f (by decide) (br_f (by decide) (lx_set1 hs hy (br_f (by decide) (br_f (by decide) (br_f (by decide) (br_f (by decide) (br_t rfl (br_f (by decide) (br_f (by decide) (br_f (by decide) (P)))))))))))), fun post P => br_f (by decide) (br_f (by decide) (br_f (by decide) (br_f (by decide) (ly_set1 hs hy (br_f (by decide) (br_f (by decide) (br_f (by decide) (br_f (by decide) (br_f (by decide) (br_f (by decide) (br_f (by decide) (P))))))))))))⟩
end
section
variable {T : Nat → ln_D} {s y n : Nat} {K V kk vv sz bg hk hv : Nat → Int32} {h a : Int32} {post : Int32 → Prop}
theorem lx_two0 {o : Int32} (h5 : ¬ o = 5) (h7 : ¬ o = 7) (h9 : ¬ o = 9) (P : post 0) : wpX_takesTwoSets post o := br_f h5 (br_f h7 (br_f h9 P))
theorem lx_two1 {o : Int32} (h : o = 5 ∨ o = 7 ∨ o = 9) (P : post 1) : wpX_takesTwoSets post o := by
  rcases h with rfl | rfl | rfl
  · exact br_t rfl P
  · exact br_f (by decide) (br_t rfl P)
  · exact br_f (by decide) (br_f (by decide) (br_t rfl P))
theorem lx_mobx {o : Int32} (h0 : ¬ o = 0) (hs : s < 16) (hy : y < s) (hb : bg y = 1) (P : post 1) : wpX_isMadeOfBig post (h, nI s, hk, hv, kk, vv, sz, bg) o (nI y) a := by
  have yi : vp_in (nI y) 16 := vp_in_nI (by omega) (by omega)
  unfold wpX_isMadeOfBig
  dsimp only
  rw [nI_clamp (n := y) (by omega)]
  exact br_f h0 ⟨yi, br_f (by rw [hb]; decide) P⟩
theorem lx_mob1 {o : Int32} (h0 : ¬ o = 0) (h5 : ¬ o = 5) (h7 : ¬ o = 7) (h9 : ¬ o = 9) (hs : s < 16) (hy : y < s) (hb : bg y = 0) (P : post 0) : wpX_isMadeOfBig post (h, nI s, hk, hv, kk, vv, sz, bg) o (nI y) a := by
  have yi : vp_in (nI y) 16 := vp_in_nI (by omega) (by omega)
  unfold wpX_isMadeOfBig
  dsimp only
  rw [nI_clamp (n := y) (by omega)]
  exact br_f h0 ⟨yi, br_t hb (lx_two0 h5 h7 h9 (br_t rfl P))⟩
theorem lx_moba {o : Int32} {z : Nat} (h0 : o = 5 ∨ o = 7 ∨ o = 9) (hs : s < 16) (hy : y < s) (hb : bg y = 0) (hz : z < s) (hc : bg z = 1) (P : post 1) : wpX_isMadeOfBig post (h, nI s, hk, hv, kk, vv, sz, bg) o (nI y) (nI z) := by
  have yi : vp_in (nI y) 16 := vp_in_nI (by omega) (by omega)
  have zi : vp_in (nI z) 16 := vp_in_nI (by omega) (by omega)
  have n0 : ¬ o = 0 := by
    rintro rfl
    revert h0
    decide
  unfold wpX_isMadeOfBig
  dsimp only
  rw [nI_clamp (n := y) (by omega), nI_clamp (n := z) (by omega)]
  exact br_f n0 ⟨yi, br_t hb (lx_two1 h0 (br_f (by decide) ⟨zi, br_f (by rw [hc]; decide) P⟩))⟩
theorem lx_mob2 {o : Int32} {z : Nat} (h0 : o = 5 ∨ o = 7 ∨ o = 9) (hs : s < 16) (hy : y < s) (hb : bg y = 0) (hz : z < s) (hc : bg z = 0) (P : post 0) : wpX_isMadeOfBig post (h, nI s, hk, hv, kk, vv, sz, bg) o (nI y) (nI z) := by
  have yi : vp_in (nI y) 16 := vp_in_nI (by omega) (by omega)
  have zi : vp_in (nI z) 16 := vp_in_nI (by omega) (by omega)
  have n0 : ¬ o = 0 := by
    rintro rfl
    revert h0
    decide
  unfold wpX_isMadeOfBig
  dsimp only
  rw [nI_clamp (n := y) (by omega), nI_clamp (n := z) (by omega)]
  exact br_f n0 ⟨yi, br_t hb (lx_two1 h0 (br_f (by decide) ⟨zi, br_t hc P⟩))⟩
end
/-- the class asks whether the set is made of a big one, and works it out if not -/
theorem lx_mob {T : Nat → ln_D} {s hn : Nat} {kk vv sz bg sz0 hk hv : Nat → Int32} {o x a b : Int32} {gl : ln_L} {post : Int32 → Prop} (hs : s < 16) (hh : hn ≤ 24) (H : ∀ e, e < s → ln_Ho e (T e) kk vv sz bg) (ok : ln_Ok s o x a) (hgl : o = 0 → gl = ln_sq (fun i => [(hk i, hv i)]) hn 0)
    (P1 : ¬ o = 0 → ln_rs T o x a b gl = none → post 1)
    (P0 : (∀ (pw : SX → Prop) (sz' bg' : Nat → Int32), ln_Tb T s ln_e0 kk vv sz' bg' → (∀ kk' vv' sz' bg', ln_Tb T s (ln_rs T o x a b gl) kk' vv' sz' bg' → pw (if o = 0 then 0 else nI hn, nI s, hk, hv, kk', vv', sz', bg')) → wpX_workOut pw (nI hn, nI s, hk, hv, kk, vv, sz', bg') o x a b) → post 0) :
    wpX_isMadeOfBig post (nI hn, nI s, hk, hv, kk, vv, sz0, bg) o x a := by
  have N : ∀ e, e < s → T e = none → bg e = 1 := by
    intro e he z
    have h := H e he
    rw [z] at h
    exact h
  have S : ∀ e n K V, e < s → T e = some (n, K, V) → bg e = 0 := by
    intro e n K V he z
    have h := H e he
    rw [z] at h
    exact h.1
  rcases ok with rfl | ⟨y, hy, rfl, ((rfl | rfl | rfl | rfl | rfl | rfl) | ⟨(rfl | rfl), t, ht, rfl⟩ | ⟨(rfl | rfl | rfl), z, hz, rfl⟩)⟩
  · refine br_t rfl (P0 fun pw sz' bg' H' Q => ?_)
    rw [hgl rfl] at Q
    exact lx_w0 hh hs H' Q
  · match e : T y with
    | none => exact lx_mobx (by decide) hs hy (N y hy e) (P1 (by decide) (ln_rs_x (by decide) (by omega) e))
    | some (n, K, V) => exact lx_mob1 (by decide) (by decide) (by decide) (by decide) hs hy (S y n K V hy e) (P0 fun pw sz' bg' H' Q => lx_w1 hs H' hy e Q)
  · match e : T y with
    | none => exact lx_mobx (by decide) hs hy (N y hy e) (P1 (by decide) (ln_rs_x (by decide) (by omega) e))
    | some (n, K, V) => exact lx_mob1 (by decide) (by decide) (by decide) (by decide) hs hy (S y n K V hy e) (P0 fun pw sz' bg' H' Q => lx_w2 hs H' hy e Q)
  · match e : T y with
    | none => exact lx_mobx (by decide) hs hy (N y hy e) (P1 (by decide) (ln_rs_x (by decide) (by omega) e))
    | some (n, K, V) => exact lx_mob1 (by decide) (by decide) (by decide) (by decide) hs hy (S y n K V hy e) (P0 fun pw sz' bg' H' Q => lx_w3 hs H' hy e Q)
  · match e : T y with
    | none => exact lx_mobx (by decide) hs hy (N y hy e) (P1 (by decide) (ln_rs_x (by decide) (by omega) e))
    | some (n, K, V) => exact lx_mob1 (by decide) (by decide) (by decide) (by decide) hs hy (S y n K V hy e) (P0 fun pw sz' bg' H' Q => lx_w8 hs H' hy e Q)
  · match e : T y with
    | none => exact lx_mobx (by decide) hs hy (N y hy e) (P1 (by decide) (ln_rs_x (by decide) (by omega) e))
    | some (n, K, V) => exact lx_mob1 (by decide) (by decide) (by decide) (by decide) hs hy (S y n K V hy e) (P0 fun pw sz' bg' H' Q => lx_w10 hs H' hy e Q)
  · match e : T y with
    | none => exact lx_mobx (by decide) hs hy (N y hy e) (P1 (by decide) (ln_rs_x (by decide) (by omega) e))
    | some (n, K, V) => exact lx_mob1 (by decide) (by decide) (by decide) (by decide) hs hy (S y n K V hy e) (P0 fun pw sz' bg' H' Q => lx_w11 hs H' hy e Q)
  · match e : T y with
    | none => exact lx_mobx (by decide) hs hy (N y hy e) (P1 (by decide) (ln_rs_x (by decide) (by omega) e))
    | some (n, K, V) => exact lx_mob1 (by decide) (by decide) (by decide) (by decide) hs hy (S y n K V hy e) (P0 fun pw sz' bg' H' Q => lx_w4 ht hs H' hy e Q)
  · match e : T y with
    | none => exact lx_mobx (by decide) hs hy (N y hy e) (P1 (by decide) (ln_rs_x (by decide) (by omega) e))
    | some (n, K, V) => exact lx_mob1 (by decide) (by decide) (by decide) (by decide) hs hy (S y n K V hy e) (P0 fun pw sz' bg' H' Q => lx_w6 hs H' hy e Q)
  · match e : T y with
    | none => exact lx_mobx (by decide) hs hy (N y hy e) (P1 (by decide) (ln_rs_x (by decide) (by omega) e))
    | some (n, K, V) =>
      match e2 : T z with
      | none => exact lx_moba (by decide) hs hy (S y n K V hy e) hz (N z hz e2) (P1 (by decide) (ln_rs_a (by decide) (by omega) e (by omega) e2))
      | some (m, K', V') => exact lx_mob2 (by decide) hs hy (S y n K V hy e) hz (S z m K' V' hz e2) (P0 fun pw sz' bg' H' Q => lx_w5 hs H' hy e hz e2 Q)
  · match e : T y with
    | none => exact lx_mobx (by decide) hs hy (N y hy e) (P1 (by decide) (ln_rs_x (by decide) (by omega) e))
    | some (n, K, V) =>
      match e2 : T z with
      | none => exact lx_moba (by decide) hs hy (S y n K V hy e) hz (N z hz e2) (P1 (by decide) (ln_rs_a (by decide) (by omega) e (by omega) e2))
      | some (m, K', V') => exact lx_mob2 (by decide) hs hy (S y n K V hy e) hz (S z m K' V' hz e2) (P0 fun pw sz' bg' H' Q => lx_w7 hs H' hy e hz e2 Q)
  · match e : T y with
    | none => exact lx_mobx (by decide) hs hy (N y hy e) (P1 (by decide) (ln_rs_x (by decide) (by omega) e))
    | some (n, K, V) =>
      match e2 : T z with
      | none => exact lx_moba (by decide) hs hy (S y n K V hy e) hz (N z hz e2) (P1 (by decide) (ln_rs_a (by decide) (by omega) e (by omega) e2))
      | some (m, K', V') => exact lx_mob2 (by decide) hs hy (S y n K V hy e) hz (S z m K' V' hz e2) (P0 fun pw sz' bg' H' Q => lx_w9 hs H' hy e hz e2 Q)
theorem lx_derive {T : Nat → ln_D} {s hn : Nat} {kk vv sz bg hk hv : Nat → Int32} {o x a b : Int32} {gl : ln_L} {post : Int32 → SX → Prop} (hs : s < 16) (hh : hn ≤ 24) (H : ∀ e, e < s → ln_Ho e (T e) kk vv sz bg) (ok : ln_Ok s o x a) (hgl : o = 0 → gl = ln_sq (fun i => [(hk i, hv i)]) hn 0)
    (F : ∀ post : Int32 → Prop, post 1 → wpX_operandsFit post (nI hn, nI s, hk, hv, kk, vv, sz, bg) o x a)
    (P : ∀ kk' vv' sz' bg', (∀ e, e < s → ln_Ho e (T e) kk' vv' sz' bg') → ln_Ho s (ln_rs T o x a b gl) kk' vv' sz' bg' → post (nI s) (if o = 0 then 0 else nI hn, nI (s + 1), hk, hv, kk', vv', sz', bg')) :
    wpX_derive post (nI hn, nI s, hk, hv, kk, vv, sz, bg) o x a b := by
  have si : vp_in (nI s) 16 := vp_in_nI (by omega) (by omega)
  unfold wpX_derive
  dsimp only
  rw [nI_clamp (n := s) (by omega)]
  refine br_t (nI_lt (b := 16) (by omega) (by decide)) (F _ (br_f (by decide) ⟨si, nm_e ?_⟩))
  refine lx_mob (sz := sz) (b := b) (gl := gl) hs hh H ok hgl (fun h0 e => ?_) (fun W => ?_)
  · have st := ln_startb (z := 0) H
    have p := P _ _ _ _ st.1 (by rw [e]; exact st.2)
    rw [if_neg h0] at p
    rw [lx_nar1]
    refine ⟨si, nm_e ⟨si, br_f (by rw [pk_us]; decide) (nm_r (nI_1 s) ?_)⟩⟩
    rw [nI_pred]
    exact p
  · rw [lx_nar0]
    refine ⟨si, nm_e ⟨si, br_t pk_us (W _ _ _ (ln_start H) fun kk' vv' sz' bg' H' => nm_r (nI_1 s) ?_)⟩⟩
    rw [nI_pred]
    exact P _ _ _ _ H'.1 (ln_Bu_Ho H'.2)
