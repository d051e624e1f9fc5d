/-! copy -/
theorem sX_str (d k m n : Nat) (x : Int32) (s : zS) (hk : k < 8) (hm : zg s 34 k = nI m) (hm2 : m ≤ 160) (hn : n < 2 ^ 31) : zcall zMs skX (d + 1) 54 [.inr (.inr 32), .inl (nI k), .inl x, .inl (nI n)] s = some (some (.inl (zBp (0 ≤ x.toInt ∧ x.toInt + (n : Int) ≤ (m : Int)))), s) := by
  rw [aX_H_hasStretch]
  unfold bX_H_hasStretch_0
  by_cases h : x < 0
  · have h' := h
    rw [zlt, t0] at h'
    rw [if_pos h, zbo_0, zBp_f (by omega)]
  · obtain ⟨i, hi, rfl⟩ := nI_of h
    have e : Int32.toInt64 (nI i) + Int32.toInt64 (nI n) = lN (i + n) := by rw [nI_l hi, nI_l hn, lN_add]
    rw [if_neg h, zin_nI hk (by decide), nI_clamp (by omega), hm, e, nI_l (show m < 2 ^ 31 by omega), nI_toInt hi]
    by_cases c : m < i + n
    · rw [if_pos ((lg_cmp_gt _ _).mpr ((pk_lLT (by omega) (by omega)).mpr c)), zbo_0, zBp_f (by omega)]
    · rw [if_neg (fun q => c ((pk_lLT (by omega) (by omega)).mp ((lg_cmp_gt _ _).mp q))), zbo_1, zBp_t (by omega)]
/-- the state in which some elements came to others -/
def cCp (t t' : zS) (a b lo hi : Nat) : Prop := (∀ p i, zg t' p i = zg t p i) ∧ ∀ p x, zgl t' p x = if p = 13 ∧ b + lo ≤ x ∧ x < b + hi then zgl t 13 (a + (x - b)) else zgl t p x
theorem cFwd (C : Nat → List zV → zS → zR) (k1 k2 i j n : Nat) (t : zS) (h1 : k1 < 8) (h2 : k2 < 8) (hi : i + n ≤ 160) (hj : j + n ≤ 160) (hov : k1 ≠ k2 ∨ j ≤ i) : ∀ (f e N : Nat) (u : zS), e + f = n → f < N → cCp t u (160 * k1 + i) (160 * k2 + j) 0 e → ∃ t', zexec skM C zT_M_copy 1 N 142 [some (.inr (.inr 0)), some (.inl (nI k1)), some (.inl (nI k2)), some (.inl (nI i)), some (.inl (nI j)), some (.inl (nI n)), some (.inl (nI e))] [] u = some (some (.inl 1), t') ∧ cCp t t' (160 * k1 + i) (160 * k2 + j) 0 n := by
  intro f
  induction f with
  | zero =>
    intro e N u he hN hC
    obtain ⟨N, rfl⟩ : ∃ N', N = N' + 1 := ⟨N - 1, by omega⟩
    obtain rfl : e = n := by omega
    refine ⟨u, ?_, hC⟩
    rw [hM_M_copy_142]
    unfold bM_M_copy_142
    rw [if_pos (nI_le (Nat.le_refl _) (by omega))]
  | succ f ih =>
    intro e N u he hN hC
    obtain ⟨N, rfl⟩ : ∃ N', N = N' + 1 := ⟨N - 1, by omega⟩
    have hC' : cCp t (zsl u 13 (160 * k2 + j + e) (zgl u 13 (160 * k1 + i + e))) (160 * k1 + i) (160 * k2 + j) 0 (e + 1) := by
      refine ⟨hC.1, fun p x => ?_⟩
      rw [zgl_zsl]
      by_cases hp : p = 13
      · rw [if_pos hp]
        by_cases hx : x = 160 * k2 + j + e
        · rw [if_pos hx, if_pos ⟨hp, by omega, by omega⟩, hC.2 13, if_neg (by omega)]
          congr 1
          omega
        · rw [if_neg hx, hC.2 p x]
          by_cases hr : p = 13 ∧ 160 * k2 + j + 0 ≤ x ∧ x < 160 * k2 + j + e
          · rw [if_pos hr, if_pos ⟨hp, by omega, by omega⟩]
          · rw [if_neg hr, if_neg (by omega)]
      · rw [if_neg hp, hC.2 p x, if_neg (by omega), if_neg (by omega)]
    obtain ⟨t', g1, g2⟩ := ih (e + 1) N _ (by omega) (by omega) hC'
    refine ⟨t', ?_, g2⟩
    rw [hM_M_copy_142]
    unfold bM_M_copy_142
    rw [if_neg (nI_ge (show e < n by omega) (by omega))]
    simp only [nlit160', nI_add, nI_1, zin_nI (show 160 * k1 + i + e < 1280 by omega) (show 1280 < 2 ^ 31 by decide), zin_nI (show 160 * k2 + j + e < 1280 by omega) (show 1280 < 2 ^ 31 by decide), nI_clamp (show 160 * k1 + i + e < 2 ^ 31 by omega), nI_clamp (show 160 * k2 + j + e < 2 ^ 31 by omega)]
    exact g1
theorem cBwd (C : Nat → List zV → zS → zR) (k i j n : Nat) (t : zS) (h1 : k < 8) (hi : i + n ≤ 160) (hj : j + n ≤ 160) (hov : i < j) : ∀ (e N : Nat) (u : zS), e ≤ n → e < N → cCp t u (160 * k + i) (160 * k + j) e n → ∃ t', zexec skM C zT_M_copy 1 N 115 [some (.inr (.inr 0)), some (.inl (nI k)), some (.inl (nI k)), some (.inl (nI i)), some (.inl (nI j)), none, some (.inl (nI e - 1))] [] u = some (some (.inl 1), t') ∧ cCp t t' (160 * k + i) (160 * k + j) 0 n := by
  intro e
  induction e with
  | zero =>
    intro N u he hN hC
    obtain ⟨N, rfl⟩ : ∃ N', N = N' + 1 := ⟨N - 1, by omega⟩
    refine ⟨u, ?_, hC⟩
    rw [hM_M_copy_115]
    unfold bM_M_copy_115
    rw [if_pos (show nI 0 - 1 < (0 : Int32) by decide)]
  | succ e ih =>
    intro N u he hN hC
    obtain ⟨N, rfl⟩ : ∃ N', N = N' + 1 := ⟨N - 1, by omega⟩
    have hC' : cCp t (zsl u 13 (160 * k + j + e) (zgl u 13 (160 * k + i + e))) (160 * k + i) (160 * k + j) e n := by
      refine ⟨hC.1, fun p x => ?_⟩
      rw [zgl_zsl]
      by_cases hp : p = 13
      · rw [if_pos hp]
        by_cases hx : x = 160 * k + j + e
        · rw [if_pos hx, if_pos ⟨hp, by omega, by omega⟩, hC.2 13, if_neg (by omega)]
          congr 1
          omega
        · rw [if_neg hx, hC.2 p x]
          by_cases hr : p = 13 ∧ 160 * k + j + (e + 1) ≤ x ∧ x < 160 * k + j + n
          · rw [if_pos hr, if_pos ⟨hp, by omega, by omega⟩]
          · rw [if_neg hr, if_neg (by omega)]
      · rw [if_neg hp, hC.2 p x, if_neg (by omega), if_neg (by omega)]
    obtain ⟨t', g1, g2⟩ := ih N _ (by omega) (by omega) hC'
    refine ⟨t', ?_, g2⟩
    rw [nI_pred, hM_M_copy_115]
    unfold bM_M_copy_115
    rw [if_neg (nI_pos (show e < 2 ^ 31 by omega))]
    simp only [nlit160', nI_add, nI_m1, zin_nI (show 160 * k + i + e < 1280 by omega) (show 1280 < 2 ^ 31 by decide), zin_nI (show 160 * k + j + e < 1280 by omega) (show 1280 < 2 ^ 31 by decide), nI_clamp (show 160 * k + i + e < 2 ^ 31 by omega), nI_clamp (show 160 * k + j + e < 2 ^ 31 by omega)]
    exact g1
theorem zgl_zslc (s : zS) (a b sp dp n p i : Nat) : zgl (zslc s a b sp dp n) p i = if p = b then (if dp ≤ i ∧ i < dp + n then zgl s a (sp + (i - dp)) else zgl s b i) else zgl s p i := rfl
theorem zg_zslc (s : zS) (a b sp dp n p i : Nat) : zg (zslc s a b sp dp n) p i = zg s p i := rfl
theorem aRel_cop {s t t' : zS} {k1 k2 i j n m1 m2 : Nat} (hk1 : k1 < 8) (hk2 : k2 < 8) (hm1 : m1 ≤ 160) (hm2 : m2 ≤ 160) (h1 : i + n ≤ m1) (h2 : j + n ≤ m2) (hel : ∀ x, x < m1 → zgl s 35 (k1 * 160 + x) = zgl t 13 (160 * k1 + x)) (h : aRel s t) (hC : cCp t t' (160 * k1 + i) (160 * k2 + j) 0 n) : aRel (zslc s 35 35 (k1 * 160 + i) (k2 * 160 + j) n) t' := by
  obtain ⟨W, hf, hX, hM, h4, h5, h6⟩ := h
  have hg : ∀ p x, zg t' p x = zg t p x := hC.1
  refine ⟨W, hf, hX, ?_, ?_, ?_, ?_⟩
  · rw [mFl_off (t := t) (t' := t') (fun p _ j => hg p j)]
    exact hM
  · intro k hk
    obtain ⟨e1, hc⟩ := h4 k hk
    refine ⟨by rw [hg]; exact e1, ?_⟩
    rcases hc with hc | hc | ⟨r, m, hr, hm, c1, c2, c3, c4⟩
    · exact Or.inl hc
    · exact Or.inr (Or.inl hc)
    · refine Or.inr (Or.inr ⟨r, m, hr, hm, c1, c2, by rw [hg]; exact c3, fun x hx => ?_⟩)
      rw [zgl_zslc, if_pos rfl, hC.2 13]
      by_cases hin : k2 * 160 + j ≤ k * 160 + x ∧ k * 160 + x < k2 * 160 + j + n
      · have hkk : k = k2 := by omega
        subst hkk
        rw [if_pos hin, if_pos ⟨rfl, by omega, by omega⟩, show k1 * 160 + i + (k * 160 + x - (k * 160 + j)) = k1 * 160 + (i + (x - j)) by omega, show 160 * k1 + i + (160 * k + x - (160 * k + j)) = 160 * k1 + (i + (x - j)) by omega]
        exact hel _ (by omega)
      · rw [if_neg hin, if_neg (by omega)]
        exact c4 x hx
  · unfold aRest at h5 ⊢
    simp only [hg, zg_zslc]
    exact h5
  · unfold aImg aX at h6 ⊢
    simp only [hg, zg_zslc]
    exact h6
theorem sX_two (d k1 k2 : Nat) (s : zS) (h1 : k1 < 8) (h2 : k2 < 8) : zcall zMs skX (d + 2) 50 [.inr (.inr 32), .inl (nI k1), .inl (nI k2)] s = some (some (.inl (zBp ((¬ zg s 33 k1 < 100) ∧ (¬ zg s 33 k2 < 100) ∧ ¬ zg s 33 k1 = zg s 33 k2))), s) := by
  rw [aX_H_areOfTwoSorts]
  unfold bX_H_areOfTwoSorts_0
  rw [sX_holdsRow _ k1 s h1, zcI_some]
  by_cases c1 : ¬ zg s 33 k1 < 100
  · rw [zBp_t c1, if_neg o1, sX_holdsRow _ k2 s h2, zcI_some]
    by_cases c2 : ¬ zg s 33 k2 < 100
    · rw [zBp_t c2, if_neg o1, zin_nI h1 (by decide), zin_nI h2 (by decide), nI_clamp (show k1 < 2 ^ 31 by omega), nI_clamp (show k2 < 2 ^ 31 by omega)]
      by_cases c3 : zg s 33 k1 = zg s 33 k2
      · rw [if_pos c3, zbo_0, zBp_f (fun q => q.2.2 c3)]
      · rw [if_neg c3, zbo_1, zBp_t ⟨c1, c2, c3⟩]
    · rw [zBp_f c2, if_pos (show (0 : Int32) = 0 from rfl), zbo_0, zBp_f (fun q => c2 q.2.1)]
  · rw [zBp_f c1, if_pos (show (0 : Int32) = 0 from rfl), zbo_0, zBp_f (fun q => c1 q.1)]
