/-! row -/
theorem sX_fill_loop (C : Nat → List zV → zS → zR) (hi : Nat) (v : Int64) (hh : hi ≤ 1280) : ∀ (f n j : Nat) (s : zS), j + f = hi → f < n → ∃ s', zexec skX C zT_J_fill 0 n 7 [some (.inr (.inr 35)), none, some (.inl (nI hi)), some (.inr (.inl v)), none, some (.inl (nI j))] [] s = some (none, s') ∧ (∀ p i, zg s' p i = zg s p i) ∧ (∀ p i, zgl s' p i = if p = 35 ∧ j ≤ i ∧ i < hi then v else zgl s p i) := by
  intro f
  induction f with
  | zero =>
    intro n j s hj hn
    obtain ⟨n, rfl⟩ : ∃ n', n = n' + 1 := ⟨n - 1, by omega⟩
    rw [hX_J_fill_7]
    unfold bX_J_fill_7
    rw [if_pos (nI_le (by omega) (by omega))]
    exact ⟨s, rfl, fun p i => rfl, fun p i => by rw [if_neg (by omega)]⟩
  | succ f ih =>
    intro n j s hj hn
    obtain ⟨n, rfl⟩ : ∃ n', n = n' + 1 := ⟨n - 1, by omega⟩
    rw [hX_J_fill_7]
    unfold bX_J_fill_7
    rw [if_neg (nI_ge (by omega) (by omega)), zin_nI (by omega) (by omega), nI_clamp (by omega), nI_1]
    obtain ⟨s', h1, h2, h3⟩ := ih n (j + 1) (zsl s 35 j v) (by omega) (by omega)
    refine ⟨s', h1, fun p i => (h2 p i).trans (zg_zsl s 35 j v p i), fun p i => ?_⟩
    rw [h3, zgl_zsl]
    by_cases hp : p = 35
    · by_cases hi : i = j
      · rw [if_neg (by omega), if_pos hp, if_pos hi, if_pos (by omega)]
      · rw [if_pos hp, if_neg hi]
        by_cases hc : j + 1 ≤ i ∧ i < j + (f + 1)
        · rw [if_pos (by omega), if_pos (by omega)]
        · rw [if_neg (by omega), if_neg (by omega)]
    · rw [if_neg (fun e => hp e.1), if_neg hp, if_neg (fun e => hp e.1)]
theorem sX_fill (d lo hi : Nat) (v : Int64) (s : zS) (h1 : lo ≤ hi) (h2 : hi ≤ 1280) : ∃ s', zcall zMs skX (d + 2) 219 [.inr (.inr 35), .inl (nI lo), .inl (nI hi), .inr (.inl v)] s = some (none, s') ∧ (∀ p i, zg s' p i = zg s p i) ∧ (∀ p i, zgl s' p i = if p = 35 ∧ lo ≤ i ∧ i < hi then v else zgl s p i) := by
  rw [aX_J_fill]
  unfold bX_J_fill_0
  rw [aX_J_rangeCheck]
  unfold bX_J_rangeCheck_0
  rw [if_pos (nI_le (by omega) (by omega)), if_pos (by rw [zle, t0, nI_toInt (by omega)]; omega), if_pos (show nI hi ≤ Int32.ofNat 1280 from nI_le (by omega) (by omega)), zcV_some]
  exact sX_fill_loop _ hi v h2 (hi - lo) 19999 lo s (by omega) (by omega)
theorem nlit100 (r : Nat) : (100 : Int32) + nI r = nI (100 + r) := by
  rw [show (100 : Int32) = nI 100 from rfl, nI_add]
theorem nmul160 (k : Nat) : nI k * (160 : Int32) = nI (k * 160) := by
  rw [show (160 : Int32) = nI 160 from rfl, pk_mul]
theorem sX_lay (d k r m : Nat) (s : zS) (hk : k < 8) (hm : m ≤ 160) : ∃ s', zcall zMs skX (d + 3) 52 [.inr (.inr 32), .inl (nI k), .inl (nI r), .inl (nI m)] s = some (none, s') ∧ (∀ p i, zg s' p i = zg (zs (zs s 33 k (nI (100 + r))) 34 k (nI m)) p i) ∧ (∀ p i, zgl s' p i = if p = 35 ∧ k * 160 ≤ i ∧ i < k * 160 + m then 0 else zgl s p i) := by
  obtain ⟨s', h1, h2, h3⟩ := sX_fill d (k * 160) (k * 160 + m) 0 (zs (zs s 33 k (nI (100 + r))) 34 k (nI m)) (by omega) (by omega)
  refine ⟨s', ?_, h2, fun p i => by rw [h3]; rfl⟩
  rw [aX_H_lay]
  unfold bX_H_lay_0
  rw [zin_nI hk (by omega), nI_clamp (by omega), nlit100, nlit160, nmul160]
  dsimp only
  rw [zin_nI hk (by omega), h1, zcV_some]
theorem sM_row_loop (C : Nat → List zV → zS → zR) (k : Nat) (hk : k < 8) : ∀ (f n j : Nat) (t : zS), j + f = 160 → f < n → ∃ t', zexec skM C zT_M_row 1 n 45 [some (.inr (.inr 0)), some (.inl (nI k)), none, none, some (.inl (nI j))] [] t = some (some (.inl 1), t') ∧ (∀ p i, zg t' p i = zg t p i) ∧ (∀ p i, zgl t' p i = if p = 13 ∧ 160 * k + j ≤ i ∧ i < 160 * k + 160 then 0 else zgl t p i) := by
  intro f
  induction f with
  | zero =>
    intro n j t hj hn
    obtain ⟨n, rfl⟩ : ∃ n', n = n' + 1 := ⟨n - 1, by omega⟩
    rw [hM_M_row_45]
    unfold bM_M_row_45
    rw [if_pos (by rw [zle, nI_toInt (by omega), show (160 : Int32).toInt = 160 by decide]; omega)]
    exact ⟨t, rfl, fun p i => rfl, fun p i => by rw [if_neg (by omega)]⟩
  | succ f ih =>
    intro n j t hj hn
    obtain ⟨n, rfl⟩ : ∃ n', n = n' + 1 := ⟨n - 1, by omega⟩
    rw [hM_M_row_45]
    unfold bM_M_row_45
    rw [if_neg (by rw [zle, nI_toInt (by omega), show (160 : Int32).toInt = 160 by decide]; omega), nlit160', zin_nI (by omega) (by omega), nI_clamp (by omega), nI_1]
    obtain ⟨t', h1, h2, h3⟩ := ih n (j + 1) (zsl t 13 (160 * k + j) 0) (by omega) (by omega)
    refine ⟨t', h1, fun p i => (h2 p i).trans (zg_zsl t 13 _ 0 p i), fun p i => ?_⟩
    rw [h3, zgl_zsl]
    by_cases hp : p = 13
    · by_cases hi : i = 160 * k + j
      · rw [if_neg (by omega), if_pos hp, if_pos hi, if_pos (by omega)]
      · rw [if_pos hp, if_neg hi]
        by_cases hc : 160 * k + (j + 1) ≤ i ∧ i < 160 * k + 160
        · rw [if_pos (by omega), if_pos (by omega)]
        · rw [if_neg (by omega), if_neg (by omega)]
    · rw [if_neg (fun e => hp e.1), if_neg hp, if_neg (fun e => hp e.1)]
theorem aSh_row {n : Nat} {s t s' t' : zS} {k r m : Nat} (hk : k < 8) (hr : r < 4) (hm : m ≤ 160) (h : aSh n s t) (hs : ∀ p i, zg s' p i = zg (zs (zs s 33 k (nI (100 + r))) 34 k (nI m)) p i) (hsl : ∀ p i, zgl s' p i = if p = 35 ∧ k * 160 ≤ i ∧ i < k * 160 + m then 0 else zgl s p i) (ht : ∀ p i, zg t' p i = zg (zs (zs t 11 k (nI (100 + r))) 12 k (nI m)) p i) (htl : ∀ p i, zgl t' p i = if p = 13 ∧ 160 * k + 0 ≤ i ∧ i < 160 * k + 160 then 0 else zgl t p i) : aSh n s' t' := by
  intro j hj
  obtain ⟨h1, h2⟩ := h j hj
  simp only [hs, hsl, ht, htl, zg_zs, show (33 : Nat) = 34 ↔ False by decide, show (34 : Nat) = 33 ↔ False by decide, show (11 : Nat) = 12 ↔ False by decide, show (12 : Nat) = 11 ↔ False by decide, if_true, if_false]
  by_cases he : j = k
  · subst he
    simp only [if_true]
    refine ⟨trivial, Or.inr (Or.inr ⟨r, m, hr, hm, rfl, rfl, rfl, fun i hi => ?_⟩)⟩
    have h160 : i < 160 := by omega
    simp [hi, h160]
  · simp only [if_neg he]
    refine ⟨h1, h2.imp id (Or.imp id ?_)⟩
    rintro ⟨r', m', hr', hm', c1, c2, c3, c4⟩
    refine ⟨r', m', hr', hm', c1, c2, c3, fun i hi => ?_⟩
    rw [if_neg (by omega), if_neg (by omega)]
    exact c4 i hi
theorem aRel_row {s t s' t' : zS} {k r m : Nat} (hk : k < 8) (hr : r < 4) (hm : m ≤ 160) (h : aRel s t) (hs : ∀ p i, zg s' p i = zg (zs (zs s 33 k (nI (100 + r))) 34 k (nI m)) p i) (hsl : ∀ p i, zgl s' p i = if p = 35 ∧ k * 160 ≤ i ∧ i < k * 160 + m then 0 else zgl s p i) (ht : ∀ p i, zg t' p i = zg (zs (zs t 11 k (nI (100 + r))) 12 k (nI m)) p i) (htl : ∀ p i, zgl t' p i = if p = 13 ∧ 160 * k + 0 ≤ i ∧ i < 160 * k + 160 then 0 else zgl t p i) : aRel s' t' := by
  obtain ⟨W, hf, hX, hM, h4, h5, h6⟩ := h
  have a : ∀ p, p ≠ 33 → p ≠ 34 → ∀ i, zg s' p i = zg s p i := fun p h1 h2 i => by rw [hs, zg_zs, zg_zs, if_neg h2, if_neg h1]
  have b : ∀ p, p ≠ 11 → p ≠ 12 → ∀ i, zg t' p i = zg t p i := fun p h1 h2 i => by rw [ht, zg_zs, zg_zs, if_neg h2, if_neg h1]
  refine ⟨W, hf, ?_, ?_, aSh_row hk hr hm h4 hs hsl ht htl, ?_, ?_⟩
  · unfold aX at hX ⊢
    simp only [a 2 (by decide) (by decide), a (2 + 1) (by decide) (by decide), a (2 + 2) (by decide) (by decide), a (2 + 3) (by decide) (by decide), a (2 + 4) (by decide) (by decide), a (2 + 5) (by decide) (by decide), a (2 + 6) (by decide) (by decide), a (2 + 7) (by decide) (by decide), a (2 + 8) (by decide) (by decide), a (2 + 9) (by decide) (by decide)]
    exact hX
  · rw [mFl_off (t := t) (t' := t') (fun p hp j => b p (by omega) (by omega) j)]
    exact hM
  · unfold aRest at h5 ⊢
    simp only [a 44 (by decide) (by decide), a 0 (by decide) (by decide), a 1 (by decide) (by decide), a 17 (by decide) (by decide), b 15 (by decide) (by decide), b 21 (by decide) (by decide), b 0 (by decide) (by decide)]
    exact h5
  · unfold aImg aX at h6 ⊢
    simp only [a 0 (by decide) (by decide), b 0 (by decide) (by decide), a 22 (by decide) (by decide), a (22 + 1) (by decide) (by decide), a (22 + 2) (by decide) (by decide), a (22 + 3) (by decide) (by decide), a (22 + 4) (by decide) (by decide), a (22 + 5) (by decide) (by decide), a (22 + 6) (by decide) (by decide), a (22 + 7) (by decide) (by decide), a (22 + 8) (by decide) (by decide), a (22 + 9) (by decide) (by decide), b 24 (by decide) (by decide)]
    exact h6

theorem sim_row (a1 a2 a3 : Int32) : zSim aRel 82 133 [.inl a1, .inl a2, .inl a3] := by
  intro s t h
  obtain ⟨d, hd⟩ := zDp_8
  rw [hd]
  by_cases h1 : zIn a1 8
  · by_cases h3 : 0 ≤ a3
    · by_cases h2 : zIn a2 4
      · obtain ⟨r, hr, rfl⟩ := zIn_ex h2 (by omega)
        by_cases h5 : a3 ≤ 160
        · obtain ⟨k, hk, rfl⟩ := zIn_ex h1 (by omega)
          have h6 : zIn a3 161 := by
            unfold zIn
            rw [zle, t0] at h3
            rw [zle, show (160 : Int32).toInt = 160 by decide] at h5
            omega
          obtain ⟨m, hm, rfl⟩ := zIn_ex h6 (by omega)
          obtain ⟨s', x1, x2, x3⟩ := sX_lay (d + 4) k r m s hk (by omega)
          obtain ⟨t', y1, y2, y3⟩ := sM_row_loop (zcall zMs skM (d + 7)) k hk 160 19999 0 (zs (zs t 11 k (nI (100 + r))) 12 k (nI m)) (by omega) (by omega)
          refine ⟨1, s', t', ?_, ?_, aRel_row hk hr (by omega) h x2 x3 y2 (fun p i => (y3 p i).trans rfl)⟩
          · rw [aX_X_row]
            unfold bX_X_row_0
            rw [sX_isShelf, zcI_some, zBp_t h1, if_pos (by decide), if_pos h3, if_neg (nI_pos (by omega)), if_pos (by rw [zlt, nI_toInt (by omega), show (4 : Int32).toInt = 4 by decide]; omega), if_pos h5, x1, zcV_some]
          · rw [aM_M_row]
            unfold bM_M_row_0
            rw [sM_in8, zcI_some, zBp_t h1, if_pos (by decide), if_pos h3, sM_in4, zcI_some, zBp_t h2, if_pos (by decide), if_pos h5, zin_nI hk (by omega), nI_clamp (by omega), nlit100]
            dsimp only
            rw [zin_nI hk (by omega)]
            exact y1
        · refine ⟨-7, _, _, ?_, ?_, aRel_refuse 7 h⟩
          · rw [aX_X_row]
            unfold bX_X_row_0
            rw [sX_isShelf, zcI_some, zBp_t h1, if_pos (by decide), if_pos h3, if_neg (nI_pos (by omega)), if_pos (by rw [zlt, nI_toInt (by omega), show (4 : Int32).toInt = 4 by decide]; omega), if_neg h5, sX_refuse7, zcI_some]
          · rw [aM_M_row]
            unfold bM_M_row_0
            rw [sM_in8, zcI_some, zBp_t h1, if_pos (by decide), if_pos h3, sM_in4, zcI_some, zBp_t h2, if_pos (by decide), if_neg h5, sM_no7, zcI_some]
      · refine ⟨-6, _, _, ?_, ?_, aRel_refuse 6 h⟩
        · rw [aX_X_row]
          unfold bX_X_row_0
          rw [sX_isShelf, zcI_some, zBp_t h1, if_pos (by decide), if_pos h3, sX_refuse6, zcI_some]
          by_cases c : a2 < 0
          · rw [if_pos c]
          · have := (zIn_not (by omega) h2).resolve_left c
            rw [zle, nI_toInt (by omega)] at this
            rw [if_neg c, if_neg (by rw [zlt, show (4 : Int32).toInt = 4 by decide]; omega)]
        · rw [aM_M_row]
          unfold bM_M_row_0
          rw [sM_in8, zcI_some, zBp_t h1, if_pos (by decide), if_pos h3, sM_in4, zcI_some, zBp_f h2, if_neg (by decide), sM_no6, zcI_some]
    · refine ⟨-4, _, _, ?_, ?_, aRel_refuse 4 h⟩
      · rw [aX_X_row]
        unfold bX_X_row_0
        rw [sX_isShelf, zcI_some, zBp_t h1, if_pos (by decide), if_neg h3, sX_refuse4, zcI_some]
      · rw [aM_M_row]
        unfold bM_M_row_0
        rw [sM_in8, zcI_some, zBp_t h1, if_pos (by decide), if_neg h3, sM_no4, zcI_some]
  · refine ⟨-1, _, _, ?_, ?_, aRel_refuse 1 h⟩
    · rw [aX_X_row]
      unfold bX_X_row_0
      rw [sX_isShelf, zcI_some, zBp_f h1, if_neg (by decide), sX_refuse1, zcI_some]
    · rw [aM_M_row]
      unfold bM_M_row_0
      rw [sM_in8, zcI_some, zBp_f h1, if_neg (by decide), sM_no1, zcI_some]
