/-! PARENTS told; make, wouldBe -/
theorem aRel_gen {s t s' t' : zS} {W W' : aW} (hf : aWf W') (hle : aN W ≤ aN W') (hX : aX 2 s' W') (hM : aMz t' W') (hs : ∀ p, (p = 17 ∨ (22 ≤ p ∧ p ≤ 35) ∨ p = 44) → ∀ i, zg s' p i = zg s p i) (h07 : zg s' 0 7 = zg s 0 7) (h09 : zg s' 0 9 = zg s 0 9) (h010 : zg s' 0 10 = zg s 0 10) (h13 : zg s' 1 3 = zg s 1 3) (hsl : ∀ p i, zgl s' p i = zgl s p i) (ht : ∀ p, (p = 11 ∨ p = 12 ∨ p = 15 ∨ p = 21 ∨ p = 24) → ∀ i, zg t' p i = zg t p i) (t30 : zg t' 0 30 = zg t 0 30) (t31 : zg t' 0 31 = zg t 0 31) (t32 : zg t' 0 32 = zg t 0 32) (t39 : zg t' 0 39 = zg t 0 39) (htl : ∀ p i, zgl t' p i = zgl t p i) (h8 : zg s' 0 8 = zg t' 0 16) (h4 : aSh (aN W) s t) (h5 : aRest s t) (h6 : aImg s t) : aRel s' t' := by
  refine ⟨W', hf, hX, aM_ofz hf hM, ?_, ?_, ?_⟩
  · intro k hk
    obtain ⟨e1, hc⟩ := h4 k hk
    refine ⟨by rw [hs 33 (by decide), ht 11 (by decide)]; exact e1, ?_⟩
    rcases hc with hc | ⟨o, ho, hc⟩ | ⟨r, m, hr, hm, c1, c2, c3, c4⟩
    · exact Or.inl (by rw [hs 33 (by decide)]; exact hc)
    · exact Or.inr (Or.inl ⟨o, by omega, by rw [hs 33 (by decide)]; exact hc⟩)
    · exact Or.inr (Or.inr ⟨r, m, hr, hm, by rw [hs 33 (by decide)]; exact c1, by rw [hs 34 (by decide)]; exact c2, by rw [ht 12 (by decide)]; exact c3, fun i hi => by rw [hsl, htl]; exact c4 i hi⟩)
  · obtain ⟨r1, r2, r3, r4, k, hk, r5, r6, r7⟩ := h5
    refine ⟨fun j hj => ?_, h8, ?_, ?_, k, hk, ?_, ?_, fun i hi hi30 => ?_⟩
    · rw [hs 44 (by decide), ht 15 (by decide), r1 j hj]
    · rw [h09, t30, r3]
    · rw [h010, t31, r4]
    · rw [h13, r5]
    · rw [t32, r6]
    · rw [hs 17 (by decide), ht 21 (by decide), r7 i hi hi30]
  · unfold aImg aX at h6 ⊢
    simp only [h07, t39, hs 22 (by decide), hs (22 + 1) (by decide), hs (22 + 2) (by decide), hs (22 + 3) (by decide), hs (22 + 4) (by decide), hs (22 + 5) (by decide), hs (22 + 6) (by decide), hs (22 + 7) (by decide), hs (22 + 8) (by decide), hs (22 + 9) (by decide), ht 24 (by decide)]
    exact h6
theorem aRel_mg {s t s' t' : zS} (h : aRel s t) (hs : ∀ p, (p < 36 ∨ 42 ≤ p) → ∀ i, zg s' p i = zg s p i) (hsl : ∀ p i, zgl s' p i = zgl s p i) (ht : ∀ p, p ≠ 0 → p ≠ 14 → p ≠ 16 → p ≠ 17 → p ≠ 18 → p ≠ 19 → ∀ i, zg t' p i = zg t p i) (ht0 : ∀ i, i ≠ 27 → zg t' 0 i = zg t 0 i) (htl : ∀ p i, zgl t' p i = zgl t p i) : aRel s' t' := by
  obtain ⟨W, hf, hX, hM, h4, h5, h6⟩ := h
  have hMz := aMz_of hf hM
  exact aRel_gen (W := W) hf (Nat.le_refl _) (aX_fr (fun p h2 h11 i => hs p (by omega) i) hX) (aMz_fr (fun p h1 h10 i => ht p (by omega) (by omega) (by omega) (by omega) (by omega) (by omega) i) (ht0 0 (by decide)) (ht0 10 (by decide)) (ht0 12 (by decide)) hMz) (fun p hp i => hs p (by omega) i) (hs 0 (by decide) 7) (hs 0 (by decide) 9) (hs 0 (by decide) 10) (hs 1 (by decide) 3) hsl (fun p hp i => ht p (by omega) (by omega) (by omega) (by omega) (by omega) (by omega) i) (ht0 30 (by decide)) (ht0 31 (by decide)) (ht0 32 (by decide)) (ht0 39 (by decide)) htl (by rw [hs 0 (by decide) 8, ht0 16 (by decide)]; exact h5.2.1) h4 h5 h6
def pV (p q r : Int32) (i : Nat) : Int32 := if i = 0 then p else if i = 1 then q else r
def xTold (s : zS) (n p q r : Int32) : zS := zs (zs (zs (zs s 37 0 p) 37 1 q) 37 2 r) 36 1 n
def mTold (t : zS) (p q r : Int32) : zS := zs (zs (zs t 14 0 p) 14 1 q) 14 2 r
theorem xTold_37 {s : zS} {n p q r : Int32} {i : Nat} (hi : i < 3) : zg (xTold s n p q r) 37 i = pV p q r i := by
  have h : i = 0 ∨ i = 1 ∨ i = 2 := by omega
  rcases h with rfl | rfl | rfl <;> rfl
theorem mTold_14 {t : zS} {p q r : Int32} {i : Nat} (hi : i < 3) : zg (mTold t p q r) 14 i = pV p q r i := by
  have h : i = 0 ∨ i = 1 ∨ i = 2 := by omega
  rcases h with rfl | rfl | rfl <;> rfl
theorem xTold_o {s : zS} {n p q r : Int32} {k i : Nat} (h : k ≠ 37) (h2 : k ≠ 36) : zg (xTold s n p q r) k i = zg s k i := by
  unfold xTold
  rw [zgz_ne h2, zgz_ne h, zgz_ne h, zgz_ne h]
theorem mTold_o {t : zS} {p q r : Int32} {k i : Nat} (h : k ≠ 14) : zg (mTold t p q r) k i = zg t k i := by
  unfold mTold
  rw [zgz_ne h, zgz_ne h, zgz_ne h]
/-- so many of the told are OBJECTS -/
def pTh (W : aW) (v : Nat → Int32) (n : Nat) : Prop := ∀ i, i < n → zIn (v i) (aN W)
def pGd (W : aW) (u : Nat → Nat) (i : Nat) : Prop := (∀ j, j < i → ¬ u j = u i) ∧ ¬ aK W (u i) = 2
def pFit (W : aW) (u : Nat → Nat) (n : Nat) : Prop := ∀ i, i < n → pGd W u i
theorem pTh_u {W : aW} {v : Nat → Int32} {n : Nat} (hn : aN W ≤ 16) (h : pTh W v n) : ∃ u : Nat → Nat, ∀ i, i < n → u i < aN W ∧ v i = nI (u i) := by
  refine ⟨fun i => (v i).toNatClampNeg, fun i hi => ?_⟩
  obtain ⟨k, hk, he⟩ := zIn_ex (h i hi) (by omega)
  show (v i).toNatClampNeg < aN W ∧ v i = nI (v i).toNatClampNeg
  rw [he, nI_clamp (by omega)]
  exact ⟨hk, rfl⟩
def pL (u : Nat → Nat) (n : Nat) : List Nat := (List.range n).map u
theorem pL_len (u : Nat → Nat) (n : Nat) : (pL u n).length = n := by
  unfold pL
  rw [List.length_map, List.length_range]
theorem pL_get {u : Nat → Nat} {n j x : Nat} (h : (pL u n)[j]? = some x) : j < n ∧ x = u j := by
  have hj : j < n := by
    have := (List.getElem?_eq_some_iff.mp h).1
    rwa [pL_len] at this
  unfold pL at h
  rw [List.getElem?_map, List.getElem?_range hj] at h
  exact ⟨hj, (Option.some.inj h).symm⟩
theorem pL_mem {u : Nat → Nat} {n x : Nat} (h : x ∈ pL u n) : ∃ j, j < n ∧ x = u j := by
  obtain ⟨j, hj⟩ := List.getElem?_of_mem h
  obtain ⟨h1, h2⟩ := pL_get hj
  exact ⟨j, h1, h2⟩
theorem pL_nd {u : Nat → Nat} {n : Nat} (hn : n ≤ 3) (h : ∀ i, i < n → ∀ j, j < i → ¬ u j = u i) : (pL u n).Nodup := by
  have hc : n = 0 ∨ n = 1 ∨ n = 2 ∨ n = 3 := by omega
  rcases hc with rfl | rfl | rfl | rfl
  · exact List.nodup_nil
  · show [u 0].Nodup
    simp
  · show [u 0, u 1].Nodup
    have h1 := h 1 (by decide) 0 (by decide)
    simp [h1]
  · show [u 0, u 1, u 2].Nodup
    have h1 := h 1 (by decide) 0 (by decide)
    have h2 := h 2 (by decide) 0 (by decide)
    have h3 := h 2 (by decide) 1 (by decide)
    simp [h1, h2, h3]
/-! the class -/
theorem xThere {W : aW} {v : Nat → Int32} {n : Nat} {s : zS} (d : Nat) (hf : aWf W) (hX : aX 2 s W) (hn : n ≤ 3) (hv : ∀ i, i < n → zg s 37 i = v i) : ∀ (f i K : Nat), i + f = n → ((∀ j, i ≤ j → j < n → zIn (v j) (aN W)) → zexec skX (zcall zMs skX (d + 1)) zT_X_whyNoParents 1 (K + f + 1) 16 [some (.inr (.inr 0)), some (.inl (nI n)), none, none, none, some (.inl (nI i))] [] s = zexec skX (zcall zMs skX (d + 1)) zT_X_whyNoParents 1 K 34 [some (.inr (.inr 0)), some (.inl (nI n)), none, none, none, some (.inl (nI 0))] [] s) ∧ (¬ (∀ j, i ≤ j → j < n → zIn (v j) (aN W)) → zexec skX (zcall zMs skX (d + 1)) zT_X_whyNoParents 1 (K + f + 1) 16 [some (.inr (.inr 0)), some (.inl (nI n)), none, none, none, some (.inl (nI i))] [] s = some (some (.inl (-1)), s)) := by
  intro f
  induction f with
  | zero =>
    intro i K hi
    refine ⟨fun _ => ?_, fun h => absurd (fun j h1 h2 => by omega) h⟩
    rw [show K + 0 + 1 = K + 1 by omega, hX_X_whyNoParents_16]
    unfold bX_X_whyNoParents_16
    rw [if_pos (nI_le (by omega) (by omega)), nI_0]
  | succ f ih =>
    intro i K hi
    obtain ⟨r1, r2⟩ := ih (i + 1) K (by omega)
    have one : zexec skX (zcall zMs skX (d + 1)) zT_X_whyNoParents 1 (K + (f + 1) + 1) 16 [some (.inr (.inr 0)), some (.inl (nI n)), none, none, none, some (.inl (nI i))] [] s = if ¬ zBp (zIn (v i) (aN W)) = 0 then zexec skX (zcall zMs skX (d + 1)) zT_X_whyNoParents 1 (K + f + 1) 16 [some (.inr (.inr 0)), some (.inl (nI n)), none, none, none, some (.inl (nI (i + 1)))] [] s else some (some (.inl (-1)), s) := by
      rw [show K + (f + 1) + 1 = (K + f + 1) + 1 by omega, hX_X_whyNoParents_16]
      unfold bX_X_whyNoParents_16
      rw [if_neg (nI_ge (show i < n by omega) (by omega)), zin_nI (show i < 3 by omega) (by decide), nI_clamp (show i < 2 ^ 31 by omega), hv i (by omega), sX_hasObject (n := aN W) _ _ s hX.1 hf.1, zcI_some, nI_1]
    rw [one]
    by_cases hz : zIn (v i) (aN W)
    · rw [zBp_t hz, if_pos o1]
      refine ⟨fun h => r1 (fun j h1 h2 => h j (by omega) h2), fun h => r2 (fun g => h (fun j h1 h2 => ?_))⟩
      by_cases hj : j = i
      · rw [hj]; exact hz
      · exact g j (by omega) h2
    · rw [zBp_f hz, if_neg z0]
      exact ⟨fun h => absurd (h i (Nat.le_refl _) (by omega)) hz, fun _ => rfl⟩
theorem xAhead {u : Nat → Nat} {n i : Nat} {s : zS} (C : Nat → List zV → zS → zR) (hn : n ≤ 3) (hi : i < n) (hu : ∀ j, j < n → u j < 16 ∧ zg s 37 j = nI (u j)) : ∀ (f j K : Nat), j + f = i → f < K → zexec skX C zT_G_standsAhead 3 K 2 [some (.inr (.inr 36)), some (.inl (nI i)), some (.inl (nI j))] [] s = some (some (.inl (zBp (∃ m, j ≤ m ∧ m < i ∧ u m = u i))), s) := by
  intro f
  induction f with
  | zero =>
    intro j K hj hK
    obtain ⟨K, rfl⟩ : ∃ K', K = K' + 1 := ⟨K - 1, by omega⟩
    rw [hX_G_standsAhead_2]
    unfold bX_G_standsAhead_2
    rw [if_pos (nI_le (by omega) (by omega)), zbo_0, zBp_f]
    rintro ⟨m, h1, h2, -⟩
    omega
  | succ f ih =>
    intro j K hj hK
    obtain ⟨K, rfl⟩ : ∃ K', K = K' + 1 := ⟨K - 1, by omega⟩
    obtain ⟨a1, a2⟩ := hu j (by omega)
    obtain ⟨b1, b2⟩ := hu i hi
    rw [hX_G_standsAhead_2]
    unfold bX_G_standsAhead_2
    rw [if_neg (nI_ge (show j < i by omega) (by omega)), zin_nI (show j < 3 by omega) (by decide), zin_nI (show i < 3 by omega) (by decide), nI_clamp (show j < 2 ^ 31 by omega), nI_clamp (show i < 2 ^ 31 by omega), a2, b2]
    by_cases he : u j = u i
    · rw [if_neg (show ¬ ¬ nI (u j) = nI (u i) from fun c => c (by rw [he])), zbo_1, zBp_t ⟨j, Nat.le_refl _, by omega, he⟩]
    · rw [if_pos (show ¬ nI (u j) = nI (u i) from fun c => he ((nI_inj16 a1 b1).mp c)), nI_1, ih (j + 1) K (by omega) (by omega)]
      rw [zB_iff (q := ∃ m, j ≤ m ∧ m < i ∧ u m = u i)]
      constructor
      · rintro ⟨m, h1, h2⟩
        exact ⟨m, by omega, h2⟩
      · rintro ⟨m, h1, h2, h3⟩
        by_cases hm : m = j
        · rw [hm] at h3; exact absurd h3 he
        · exact ⟨m, by omega, h2, h3⟩
theorem xFit {W : aW} {u : Nat → Nat} {n : Nat} {s : zS} (d : Nat) (hf : aWf W) (hX : aX 2 s W) (hn : n ≤ 3) (hu : ∀ j, j < n → u j < aN W ∧ zg s 37 j = nI (u j)) : ∀ (f i K : Nat), i + f = n → f < K → ((∀ j, i ≤ j → j < n → pGd W u j) → zexec skX (zcall zMs skX (d + 1)) zT_X_whyNoParents 1 K 34 [some (.inr (.inr 0)), some (.inl (nI n)), none, none, none, some (.inl (nI i))] [] s = some (some (.inl 0), s)) ∧ (¬ (∀ j, i ≤ j → j < n → pGd W u j) → zexec skX (zcall zMs skX (d + 1)) zT_X_whyNoParents 1 K 34 [some (.inr (.inr 0)), some (.inl (nI n)), none, none, none, some (.inl (nI i))] [] s = some (some (.inl (-6)), s)) := by
  have hn16 := hf.1
  intro f
  induction f with
  | zero =>
    intro i K hi hK
    obtain ⟨K, rfl⟩ : ∃ K', K = K' + 1 := ⟨K - 1, by omega⟩
    refine ⟨fun _ => ?_, fun h => absurd (fun j h1 h2 => by omega) h⟩
    rw [hX_X_whyNoParents_34]
    unfold bX_X_whyNoParents_34
    rw [if_pos (nI_le (by omega) (by omega))]
  | succ f ih =>
    intro i K hi hK
    obtain ⟨K, rfl⟩ : ∃ K', K = K' + 1 := ⟨K - 1, by omega⟩
    have hin : i < n := by omega
    obtain ⟨r1, r2⟩ := ih (i + 1) K (by omega) (by omega)
    obtain ⟨a1, a2⟩ := hu i hin
    have hk : zg s 3 (u i) = nI (aK W (u i)) := (hX.2.2.2.1 _ a1).1
    have hk4 := (hf.2.2.1 _ a1).1
    have hah := xAhead (u := u) (s := s) (zcall zMs skX d) hn hin (fun j hj => ⟨by have := (hu j hj).1; omega, (hu j hj).2⟩) i 0 19999 (by omega) (by omega)
    rw [nI_0] at hah
    have one : zexec skX (zcall zMs skX (d + 1)) zT_X_whyNoParents 1 (K + 1) 34 [some (.inr (.inr 0)), some (.inl (nI n)), none, none, none, some (.inl (nI i))] [] s = if ¬ zBp (∃ m, 0 ≤ m ∧ m < i ∧ u m = u i) = 0 then some (some (.inl (-6)), s) else if ¬ nI (aK W (u i)) = (2 : Int32) then zexec skX (zcall zMs skX (d + 1)) zT_X_whyNoParents 1 K 34 [some (.inr (.inr 0)), some (.inl (nI n)), none, none, none, some (.inl (nI (i + 1)))] [] s else some (some (.inl (-6)), s) := by
      rw [hX_X_whyNoParents_34]
      unfold bX_X_whyNoParents_34
      rw [if_neg (nI_ge hin (by omega)), aX_G_standsAhead]
      unfold bX_G_standsAhead_0
      rw [hah, zcI_some, zin_nI (show i < 3 by omega) (by decide), nI_clamp (show i < 2 ^ 31 by omega), a2, zin_nI (show u i < 16 by omega) (by decide), nI_clamp (show u i < 2 ^ 31 by omega), hk, nI_1]
    rw [one]
    by_cases he : ∃ m, 0 ≤ m ∧ m < i ∧ u m = u i
    · rw [zBp_t he, if_pos o1]
      refine ⟨fun h => ?_, fun _ => rfl⟩
      obtain ⟨m, -, h1, h2⟩ := he
      exact absurd h2 ((h i (Nat.le_refl _) hin).1 m h1)
    · rw [zBp_f he, if_neg z0]
      by_cases hk2 : aK W (u i) = 2
      · rw [if_neg (show ¬ ¬ nI (aK W (u i)) = (2 : Int32) from fun c => c (by rw [hk2]; decide))]
        exact ⟨fun h => absurd hk2 (h i (Nat.le_refl _) hin).2, fun _ => rfl⟩
      · rw [if_pos (show ¬ nI (aK W (u i)) = (2 : Int32) from fun c => hk2 ((nI_i3 (by omega) 2 (by omega)).mp c))]
        have hgd : pGd W u i := ⟨fun j hj c => he ⟨j, Nat.zero_le _, hj, c⟩, hk2⟩
        refine ⟨fun h => r1 (fun j h1 h2 => h j (by omega) h2), fun h => r2 (fun g => h (fun j h1 h2 => ?_))⟩
        by_cases hj : j = i
        · rw [hj]; exact hgd
        · exact g j (by omega) h2
/-! the reference -/
theorem mThere {W : aW} {v : Nat → Int32} {n : Nat} {t : zS} (d : Nat) (hf : aWf W) (hM : aMz t W) (hn : n ≤ 3) (hv : ∀ i, i < n → zg t 14 i = v i) : ∀ (f i K : Nat), i + f = n → f < K → zexec skM (zcall zMs skM (d + 2)) zT_M_areThere 3 K 2 [some (.inr (.inr 0)), some (.inl (nI n)), some (.inl (nI i))] [] t = some (some (.inl (zBp (∀ j, i ≤ j → j < n → zIn (v j) (aN W)))), t) := by
  intro f
  induction f with
  | zero =>
    intro i K hi hK
    obtain ⟨K, rfl⟩ : ∃ K', K = K' + 1 := ⟨K - 1, by omega⟩
    rw [hM_M_areThere_2]
    unfold bM_M_areThere_2
    rw [if_pos (nI_le (by omega) (by omega)), zbo_1, zBp_t (fun j h1 h2 => by omega)]
  | succ f ih =>
    intro i K hi hK
    obtain ⟨K, rfl⟩ : ∃ K', K = K' + 1 := ⟨K - 1, by omega⟩
    rw [hM_M_areThere_2]
    unfold bM_M_areThere_2
    rw [if_neg (nI_ge (show i < n by omega) (by omega)), zin_nI (show i < 3 by omega) (by decide), nI_clamp (show i < 2 ^ 31 by omega), hv i (by omega), sM_isOne (n := aN W) _ _ t hM.1 hf.1, zcI_some]
    by_cases hz : zIn (v i) (aN W)
    · rw [zBp_t hz, if_pos o1, nI_1, ih (i + 1) K (by omega) (by omega)]
      rw [zB_iff (q := ∀ j, i ≤ j → j < n → zIn (v j) (aN W))]
      constructor
      · intro h j h1 h2
        by_cases hj : j = i
        · rw [hj]; exact hz
        · exact h j (by omega) h2
      · intro h j h1 h2
        exact h j (by omega) h2
    · rw [zBp_f hz, if_neg z0, zbo_0, zBp_f (fun h => hz (h i (Nat.le_refl _) (by omega)))]
theorem mFitIn {u : Nat → Nat} {n i : Nat} {t : zS} (C : Nat → List zV → zS → zR) (hn : n ≤ 3) (hi : i < n) (hu : ∀ j, j < n → u j < 16 ∧ zg t 14 j = nI (u j)) : ∀ (f j K : Nat), j + f = i → ((∀ m, j ≤ m → m < i → ¬ u m = u i) → zexec skM C zT_M_isFit 3 (K + f + 1) 18 [some (.inr (.inr 0)), some (.inl (nI n)), some (.inl (nI i)), some (.inl (nI j))] [] t = zexec skM C zT_M_isFit 3 K 2 [some (.inr (.inr 0)), some (.inl (nI n)), some (.inl (nI (i + 1))), none] [] t) ∧ (¬ (∀ m, j ≤ m → m < i → ¬ u m = u i) → zexec skM C zT_M_isFit 3 (K + f + 1) 18 [some (.inr (.inr 0)), some (.inl (nI n)), some (.inl (nI i)), some (.inl (nI j))] [] t = some (some (.inl 0), t)) := by
  intro f
  induction f with
  | zero =>
    intro j K hj
    refine ⟨fun _ => ?_, fun h => absurd (fun m h1 h2 => by omega) h⟩
    rw [show K + 0 + 1 = K + 1 by omega, hM_M_isFit_18]
    unfold bM_M_isFit_18
    rw [if_pos (nI_le (by omega) (by omega)), nI_1]
  | succ f ih =>
    intro j K hj
    obtain ⟨r1, r2⟩ := ih (j + 1) K (by omega)
    obtain ⟨a1, a2⟩ := hu j (by omega)
    obtain ⟨b1, b2⟩ := hu i hi
    have one : zexec skM C zT_M_isFit 3 (K + (f + 1) + 1) 18 [some (.inr (.inr 0)), some (.inl (nI n)), some (.inl (nI i)), some (.inl (nI j))] [] t = if ¬ nI (u i) = nI (u j) then zexec skM C zT_M_isFit 3 (K + f + 1) 18 [some (.inr (.inr 0)), some (.inl (nI n)), some (.inl (nI i)), some (.inl (nI (j + 1)))] [] t else some (some (.inl 0), t) := by
      rw [show K + (f + 1) + 1 = (K + f + 1) + 1 by omega, hM_M_isFit_18]
      unfold bM_M_isFit_18
      rw [if_neg (nI_ge (show j < i by omega) (by omega)), zin_nI (show i < 3 by omega) (by decide), zin_nI (show j < 3 by omega) (by decide), nI_clamp (show j < 2 ^ 31 by omega), nI_clamp (show i < 2 ^ 31 by omega), a2, b2, nI_1, zbo_0]
    rw [one]
    by_cases he : u i = u j
    · rw [if_neg (show ¬ ¬ nI (u i) = nI (u j) from fun c => c (by rw [he]))]
      exact ⟨fun h => absurd he.symm (h j (Nat.le_refl _) (by omega)), fun _ => rfl⟩
    · rw [if_pos (show ¬ nI (u i) = nI (u j) from fun c => he ((nI_inj16 b1 a1).mp c))]
      refine ⟨fun h => r1 (fun m h1 h2 => h m (by omega) h2), fun h => r2 (fun g => h (fun m h1 h2 => ?_))⟩
      by_cases hm : m = j
      · rw [hm]; exact fun c => he c.symm
      · exact g m (by omega) h2
theorem mFit {W : aW} {u : Nat → Nat} {n : Nat} {t : zS} (C : Nat → List zV → zS → zR) (hf : aWf W) (hM : aMz t W) (hn : n ≤ 3) (hu : ∀ j, j < n → u j < aN W ∧ zg t 14 j = nI (u j)) : ∀ (f i K : Nat), i + f = n → f * 6 < K → zexec skM C zT_M_isFit 3 K 2 [some (.inr (.inr 0)), some (.inl (nI n)), some (.inl (nI i)), none] [] t = some (some (.inl (zBp (∀ j, i ≤ j → j < n → pGd W u j))), t) := by
  have hn16 := hf.1
  intro f
  induction f with
  | zero =>
    intro i K hi hK
    obtain ⟨K, rfl⟩ : ∃ K', K = K' + 1 := ⟨K - 1, by omega⟩
    rw [hM_M_isFit_2]
    unfold bM_M_isFit_2
    rw [if_pos (nI_le (by omega) (by omega)), zbo_1, zBp_t (fun j h1 h2 => by omega)]
  | succ f ih =>
    intro i K hi hK
    have hin : i < n := by omega
    obtain ⟨K, rfl⟩ : ∃ K', K = (K' + i + 1) + 1 := ⟨K - i - 2, by omega⟩
    obtain ⟨a1, a2⟩ := hu i hin
    have hk : zg t 1 (u i) = nI (aK W (u i)) := (hM.2.2.2.1 _ a1).1
    have hk4 := (hf.2.2.1 _ a1).1
    obtain ⟨r1, r2⟩ := mFitIn (u := u) (t := t) C hn hin (fun j hj => ⟨by have := (hu j hj).1; omega, (hu j hj).2⟩) i 0 K (by omega)
    rw [nI_0] at r1 r2
    have hr := ih (i + 1) K (by omega) (by omega)
    rw [hM_M_isFit_2]
    unfold bM_M_isFit_2
    rw [if_neg (nI_ge hin (by omega)), zin_nI (show i < 3 by omega) (by decide), nI_clamp (show i < 2 ^ 31 by omega), a2, zin_nI (show u i < 16 by omega) (by decide), nI_clamp (show u i < 2 ^ 31 by omega), hk]
    by_cases hk2 : aK W (u i) = 2
    · rw [if_neg (show ¬ ¬ nI (aK W (u i)) = (2 : Int32) from fun c => c (by rw [hk2]; decide)), zbo_0, zBp_f (fun h => (h i (Nat.le_refl _) hin).2 hk2)]
    · rw [if_pos (show ¬ nI (aK W (u i)) = (2 : Int32) from fun c => hk2 ((nI_i3 (by omega) 2 (by omega)).mp c))]
      by_cases hg : ∀ m, 0 ≤ m → m < i → ¬ u m = u i
      · rw [r1 hg, hr]
        rw [zB_iff (q := ∀ j, i ≤ j → j < n → pGd W u j)]
        constructor
        · intro h j h1 h2
          by_cases hj : j = i
          · rw [hj]; exact ⟨fun m hm => hg m (Nat.zero_le _) hm, hk2⟩
          · exact h j (by omega) h2
        · intro h j h1 h2
          exact h j (by omega) h2
      · rw [r2 hg, zBp_f]
        intro h
        exact hg (fun m _ hm => (h i (Nat.le_refl _) hin).1 m hm)
/-- what both sides say of told PARENTS, and where they stand then -/
theorem aPrt {W : aW} {s t : zS} (d : Nat) (hf : aWf W) (hX : aX 2 s W) (hM : aMz t W) (n : Nat) (hn : n ≤ 3) (p q r : Int32) : (¬ pTh W (pV p q r) n ∧ zcall zMs skX (d + 4) 119 [.inr (.inr 0), .inl (nI n), .inl p, .inl q, .inl r] s = some (some (.inl (-1)), xTold s (nI n) p q r) ∧ zcall zMs skM (d + 4) 147 [.inr (.inr 0), .inl p, .inl q, .inl r] t = some (none, mTold t p q r) ∧ zcall zMs skM (d + 4) 148 [.inr (.inr 0), .inl (nI n)] (mTold t p q r) = some (some (.inl 0), mTold t p q r)) ∨ (∃ u : Nat → Nat, (∀ i, i < n → u i < aN W) ∧ zcall zMs skM (d + 4) 147 [.inr (.inr 0), .inl p, .inl q, .inl r] t = some (none, mTold t p q r) ∧ zcall zMs skM (d + 4) 148 [.inr (.inr 0), .inl (nI n)] (mTold t p q r) = some (some (.inl 1), mTold t p q r) ∧ ((¬ pFit W u n ∧ zcall zMs skX (d + 4) 119 [.inr (.inr 0), .inl (nI n), .inl p, .inl q, .inl r] s = some (some (.inl (-6)), xTold s (nI n) p q r) ∧ zcall zMs skM (d + 4) 145 [.inr (.inr 0), .inl (nI n)] (mTold t p q r) = some (some (.inl 0), mTold t p q r)) ∨ (pFit W u n ∧ zcall zMs skX (d + 4) 119 [.inr (.inr 0), .inl (nI n), .inl p, .inl q, .inl r] s = some (some (.inl 0), xTold s (nI n) p q r) ∧ zcall zMs skM (d + 4) 145 [.inr (.inr 0), .inl (nI n)] (mTold t p q r) = some (some (.inl 1), mTold t p q r) ∧ (pL u n).Nodup ∧ (∀ x, x ∈ pL u n → x < aN W) ∧ tX (xTold s (nI n) p q r) (pL u n) ∧ mIn (zg (mTold t p q r) 14) (pL u n)))) := by
  have hn16 := hf.1
  have hX1 : aX 2 (xTold s (nI n) p q r) W := aX_fr (fun k h2 h11 i => xTold_o (by omega) (by omega)) hX
  have hM1 : aMz (mTold t p q r) W := aMz_fr (fun k h1 h10 i => mTold_o (by omega)) rfl rfl rfl hM
  have hvx : ∀ i, i < n → zg (xTold s (nI n) p q r) 37 i = pV p q r i := fun i hi => xTold_37 (by omega)
  have hvm : ∀ i, i < n → zg (mTold t p q r) 14 i = pV p q r i := fun i hi => mTold_14 (by omega)
  have x119 : zcall zMs skX (d + 4) 119 [.inr (.inr 0), .inl (nI n), .inl p, .inl q, .inl r] s = zexec skX (zcall zMs skX (d + 3)) zT_X_whyNoParents 1 19999 16 [some (.inr (.inr 0)), some (.inl (nI n)), none, none, none, some (.inl (nI 0))] [] (xTold s (nI n) p q r) := by
    rw [aX_X_whyNoParents]
    unfold bX_X_whyNoParents_0
    rw [if_neg (nI_pos (by omega)), if_pos (show nI n ≤ (3 : Int32) from nI_le (b := 3) hn (by decide)), aX_G_tellFirst]
    unfold bX_G_tellFirst_0
    dsimp only
    rw [zcV_some, nI_0]
    rfl
  have m147 : zcall zMs skM (d + 4) 147 [.inr (.inr 0), .inl p, .inl q, .inl r] t = some (none, mTold t p q r) := by
    rw [aM_M_tells]
    rfl
  have m148 := mThere (v := pV p q r) (d + 1) hf hM1 hn hvm n 0 19999 (by omega) (by omega)
  rw [nI_0] at m148
  have m148' : ∀ z : Int32, zBp (∀ j, 0 ≤ j → j < n → zIn (pV p q r j) (aN W)) = z → zcall zMs skM (d + 4) 148 [.inr (.inr 0), .inl (nI n)] (mTold t p q r) = some (some (.inl z), mTold t p q r) := by
    intro z hz
    rw [aM_M_areThere]
    unfold bM_M_areThere_0
    rw [m148, hz]
  obtain ⟨y1, y2⟩ := xThere (v := pV p q r) (d + 2) hf hX1 hn hvx n 0 (19998 - n) (by omega)
  rw [show 19998 - n + n + 1 = 19999 by omega] at y1 y2
  by_cases hth : ∀ j, 0 ≤ j → j < n → zIn (pV p q r j) (aN W)
  · right
    obtain ⟨u, hu⟩ := pTh_u hn16 (show pTh W (pV p q r) n from fun i hi => hth i (Nat.zero_le _) hi)
    have hux : ∀ j, j < n → u j < aN W ∧ zg (xTold s (nI n) p q r) 37 j = nI (u j) := fun j hj => ⟨(hu j hj).1, (hvx j hj).trans (hu j hj).2⟩
    have hum : ∀ j, j < n → u j < aN W ∧ zg (mTold t p q r) 14 j = nI (u j) := fun j hj => ⟨(hu j hj).1, (hvm j hj).trans (hu j hj).2⟩
    obtain ⟨w1, w2⟩ := xFit (u := u) (d + 2) hf hX1 hn hux n 0 (19998 - n) (by omega) (by omega)
    have m145 := mFit (u := u) (zcall zMs skM (d + 3)) hf hM1 hn hum n 0 19999 (by omega) (by omega)
    rw [nI_0] at m145
    have m145' : ∀ z : Int32, zBp (∀ j, 0 ≤ j → j < n → pGd W u j) = z → zcall zMs skM (d + 4) 145 [.inr (.inr 0), .inl (nI n)] (mTold t p q r) = some (some (.inl z), mTold t p q r) := by
      intro z hz
      rw [aM_M_isFit]
      unfold bM_M_isFit_0
      rw [m145, hz]
    refine ⟨u, fun i hi => (hu i hi).1, m147, m148' 1 (zBp_t hth), ?_⟩
    by_cases hfit : ∀ j, 0 ≤ j → j < n → pGd W u j
    · right
      refine ⟨fun i hi => hfit i (Nat.zero_le _) hi, by rw [x119, y1 hth, w1 hfit], m145' 1 (zBp_t hfit), pL_nd hn (fun i hi => (hfit i (Nat.zero_le _) hi).1), fun x hx => ?_, ⟨?_, fun j x hx => ?_⟩, fun j x hx => ?_⟩
      · obtain ⟨j, hj, rfl⟩ := pL_mem hx
        exact (hu j hj).1
      · rw [pL_len]; rfl
      · obtain ⟨hj, rfl⟩ := pL_get hx
        exact (hux j hj).2
      · obtain ⟨hj, rfl⟩ := pL_get hx
        exact (hum j hj).2
    · left
      exact ⟨fun h => hfit (fun j _ hj => h j hj), by rw [x119, y1 hth, w2 hfit], m145' 0 (zBp_f hfit)⟩
  · left
    exact ⟨fun h => hth (fun j _ hj => h j hj), by rw [x119, y2 hth], m147, m148' 0 (zBp_f hth)⟩
theorem aPrt_no {s : zS} (d : Nat) (n p q r : Int32) (hn : ¬ zIn n 4) : zcall zMs skX (d + 4) 119 [.inr (.inr 0), .inl n, .inl p, .inl q, .inl r] s = some (some (.inl (-6)), s) := by
  rw [aX_X_whyNoParents]
  unfold bX_X_whyNoParents_0
  by_cases h : n < 0
  · rw [if_pos h]
  · rw [if_neg h, if_neg]
    intro c
    apply hn
    unfold zIn
    rw [zlt, t0] at h
    rw [zle, show (3 : Int32).toInt = 3 by decide] at c
    omega
theorem aRel_told {s t : zS} (h : aRel s t) (n p q r : Int32) : aRel (xTold s n p q r) (mTold t p q r) := aRel_mg h (fun k hk i => xTold_o (by omega) (by omega)) (fun _ _ => rfl) (fun k _ h14 _ _ _ _ i => mTold_o h14) (fun i _ => rfl) (fun _ _ => rfl)

theorem sim_make (a1 a2 a3 a4 a5 : Int32) : zSim aRel 91 149 [.inl a1, .inl a2, .inl a3, .inl a4, .inl a5] := by
  intro s t h
  obtain ⟨d, hd⟩ := zDp_8
  rw [hd]
  obtain ⟨W, hf, hX, hM, h4, h5, h6⟩ := id h
  have hn := hf.1
  have hMz := aMz_of hf hM
  by_cases h1 : zIn a1 4
  · by_cases h2 : zIn a2 4
    · obtain ⟨k, hk, rfl⟩ := zIn_ex h1 (by omega)
      obtain ⟨n, hn3, rfl⟩ := zIn_ex h2 (by omega)
      have hrt := aRel_told h (nI n) a3 a4 a5
      rcases aPrt (d + 3) hf hX hMz n (by omega) a3 a4 a5 with ⟨-, x1, m1, m2⟩ | ⟨u, hu, m1, m2, ⟨-, x1, m3⟩ | ⟨hfit, x1, m3, p1, p2, p3, p4⟩⟩
      · refine ⟨-1, _, _, ?_, ?_, aRel_refuse 1 hrt⟩
        · rw [aX_X_make]
          unfold bX_X_make_0
          rw [sX_isKind, zcI_some, zBp_t h1, if_pos o1, x1, zcI_some, if_neg (show ¬ (-1 : Int32) = 0 by decide), sX_refuse1, zcI_some]
        · rw [aM_M_make]
          unfold bM_M_make_0
          rw [sM_in4, zcI_some, zBp_t h1, if_pos o1, sM_in4, zcI_some, zBp_t h2, if_pos o1, m1, zcV_some, m2, zcI_some, if_neg z0, sM_no1, zcI_some]
      · refine ⟨-6, _, _, ?_, ?_, aRel_refuse 6 hrt⟩
        · rw [aX_X_make]
          unfold bX_X_make_0
          rw [sX_isKind, zcI_some, zBp_t h1, if_pos o1, x1, zcI_some, if_neg (show ¬ (-6 : Int32) = 0 by decide), sX_refuse6, zcI_some]
        · rw [aM_M_make]
          unfold bM_M_make_0
          rw [sM_in4, zcI_some, zBp_t h1, if_pos o1, sM_in4, zcI_some, zBp_t h2, if_pos o1, m1, zcV_some, m2, zcI_some, if_pos o1, m3, zcI_some, if_pos (show (0 : Int32) = 0 from rfl), sM_no6, zcI_some]
      · have hX1 : aX 2 (xTold s (nI n) a3 a4 a5) W := aX_fr (fun k h2 h11 i => xTold_o (by omega) (by omega)) hX
        have hM1 : aMz (mTold t a3 a4 a5) W := aMz_fr (fun k h1 h10 i => mTold_o (by omega)) rfl rfl rfl hMz
        have hlen : (pL u n).length = n := pL_len u n
        obtain ⟨s2, e1, e2, e3, e4, e5⟩ := fndX (d + 3) hf (by omega) p1 p2 hX1 p3
        obtain ⟨t2, f1, f2, f3, f4, f5⟩ := fndM (d + 3) hf (by omega) p1 p2 hM1 p4
        rw [hlen] at f1
        have hrel2 : aRel s2 t2 := aRel_mg hrt (fun k hk i => e3 k i (by omega) (by omega) (by omega) (by omega) (by omega)) e5 (fun k k0 k14 k16 k17 k18 k19 i => f3 k i k0 k16 k17 k18 k19) f4 f5
        have hX2 : aX 2 s2 W := aX_fr (fun p h2 h11 i => e3 p i (by omega) (by omega) (by omega) (by omega) (by omega)) hX1
        have hM2 : aMz t2 W := aMz_fr (fun p h1 h10 i => f3 p i (by omega) (by omega) (by omega) (by omega) (by omega)) (f4 0 (by decide)) (f4 10 (by decide)) (f4 12 (by decide)) hM1
        by_cases hnone : mO W (pL u n) = none
        · refine ⟨-6, _, _, ?_, ?_, aRel_refuse 6 hrel2⟩
          · rw [aX_X_make]
            unfold bX_X_make_0
            rw [sX_isKind, zcI_some, zBp_t h1, if_pos o1, x1, zcI_some, if_pos (show (0 : Int32) = 0 from rfl), e1, zcI_some, zBp_f (fun c => c hnone), if_neg z0, sX_refuse6, zcI_some]
          · rw [aM_M_make]
            unfold bM_M_make_0
            rw [sM_in4, zcI_some, zBp_t h1, if_pos o1, sM_in4, zcI_some, zBp_t h2, if_pos o1, m1, zcV_some, m2, zcI_some, if_pos o1, m3, zcI_some, if_neg o1, f1, zcI_some, zBp_f (fun c => c hnone), if_neg z0, sM_no6, zcI_some]
        · obtain ⟨r, hr⟩ := Option.ne_none_iff_exists'.mp hnone
          obtain ⟨q1, q2, q3, q4⟩ := e2 r hr
          obtain ⟨q5, q6⟩ := f2 r hr
          have xf : ∀ z : Int32, z = zBp (¬ aN W < 16) → zcall zMs skX (d + 7) 61 [.inr (.inr 2)] s2 = some (some (.inl z), s2) := by
            intro z hz
            rw [aX_W_isFull]
            unfold bX_W_isFull_0
            rw [hX2.1, hz]
            by_cases hl : aN W < 16
            · rw [if_pos (show nI (aN W) < (16 : Int32) from nI_lt (b := 16) hl (by decide)), zbo_0, zBp_f (fun c => c hl)]
            · rw [if_neg (show ¬ nI (aN W) < (16 : Int32) from nI_nlt (a := aN W) (b := 16) (by omega) (by omega)), zbo_1, zBp_t hl]
          by_cases hl : aN W < 16
          · obtain ⟨s3, g1, g2, g3, g4⟩ := sX_add (k := k) (d + 5) hf hl (show (pL u n).length ≤ 3 by omega) q4 q3 hX2 ⟨(e4 1 (by decide)).trans p3.1, fun j x hx => (e3 37 j (by decide) (by decide) (by decide) (by decide) (by decide)).trans (p3.2 j x hx)⟩ q1 q2
            obtain ⟨t3, k1, k2, k3, k4, k5⟩ := sM_new (k := k) (d + 6) hf hl (show (pL u n).length ≤ 3 by omega) q4 q3 hM2 (fun j x hx => (f3 14 j (by decide) (by decide) (by decide) (by decide) (by decide)).trans (p4 j x hx)) q5 q6
            rw [hlen] at k1
            have hsf : ∀ p i, (p < 2 ∨ (9 ≤ p ∧ p < 36) ∨ 42 ≤ p) → zg s3 p i = zg s p i := fun p i hp => by rw [g3 p i (by omega), e3 p i (by omega) (by omega) (by omega) (by omega) (by omega), xTold_o (by omega) (by omega)]
            have htf : ∀ p i, 10 ≤ p → p ≠ 14 → p ≠ 16 → p ≠ 17 → p ≠ 18 → p ≠ 19 → zg t3 p i = zg t p i := fun p i hp p14 p16 p17 p18 p19 => by rw [k3 p i hp, f3 p i (by omega) p16 p17 p18 p19, mTold_o p14]
            have ht0 : ∀ i, i ≠ 0 → i ≠ 27 → zg t3 0 i = zg t 0 i := fun i i0 i27 => by rw [k4 i i0, f4 i i27, mTold_o (by decide)]
            refine ⟨nI (aN W), s3, t3, ?_, ?_, aRel_gen (W := W) (aNew_f hf hl hk (show (pL u n).length ≤ 3 by omega) p2 q3 q4) (Nat.le_succ _) g2 k2 (fun p hp i => hsf p i (by omega)) (hsf 0 7 (by decide)) (hsf 0 9 (by decide)) (hsf 0 10 (by decide)) (hsf 1 3 (by decide)) (fun p i => by rw [g4, e5]; rfl) (fun p hp i => htf p i (by omega) (by omega) (by omega) (by omega) (by omega) (by omega)) (ht0 30 (by decide) (by decide)) (ht0 31 (by decide) (by decide)) (ht0 32 (by decide) (by decide)) (ht0 39 (by decide) (by decide)) (fun p i => by rw [k5, f5]; rfl) (by rw [hsf 0 8 (by decide), ht0 16 (by decide) (by decide)]; exact h5.2.1) h4 h5 h6⟩
            · rw [aX_X_make]
              unfold bX_X_make_0
              rw [sX_isKind, zcI_some, zBp_t h1, if_pos o1, x1, zcI_some, if_pos (show (0 : Int32) = 0 from rfl), e1, zcI_some, zBp_t hnone, if_pos o1, xf 0 (zBp_f (fun c => c hl)).symm, zcI_some, if_pos (show (0 : Int32) = 0 from rfl), g1, zcI_some]
            · rw [aM_M_make]
              unfold bM_M_make_0
              rw [sM_in4, zcI_some, zBp_t h1, if_pos o1, sM_in4, zcI_some, zBp_t h2, if_pos o1, m1, zcV_some, m2, zcI_some, if_pos o1, m3, zcI_some, if_neg o1, f1, zcI_some, zBp_t hnone, if_pos o1, hM2.1, if_pos (show ¬ nI (aN W) = (16 : Int32) from fun c => by have := (nI_i3 (by omega) 16 (by omega)).mp c; omega), k1, zcI_some]
          · refine ⟨-7, _, _, ?_, ?_, aRel_refuse 7 hrel2⟩
            · rw [aX_X_make]
              unfold bX_X_make_0
              rw [sX_isKind, zcI_some, zBp_t h1, if_pos o1, x1, zcI_some, if_pos (show (0 : Int32) = 0 from rfl), e1, zcI_some, zBp_t hnone, if_pos o1, xf 1 (zBp_t hl).symm, zcI_some, if_neg o1, sX_refuse7, zcI_some]
            · rw [aM_M_make]
              unfold bM_M_make_0
              rw [sM_in4, zcI_some, zBp_t h1, if_pos o1, sM_in4, zcI_some, zBp_t h2, if_pos o1, m1, zcV_some, m2, zcI_some, if_pos o1, m3, zcI_some, if_neg o1, f1, zcI_some, zBp_t hnone, if_pos o1, hM2.1, if_neg (show ¬ ¬ nI (aN W) = (16 : Int32) from fun c => c (by rw [show aN W = 16 by omega]; decide)), sM_no7, zcI_some]
    · refine ⟨-6, _, _, ?_, ?_, aRel_refuse 6 h⟩
      · rw [aX_X_make]
        unfold bX_X_make_0
        rw [sX_isKind, zcI_some, zBp_t h1, if_pos o1, aPrt_no (d + 3) _ _ _ _ h2, zcI_some, if_neg (show ¬ (-6 : Int32) = 0 by decide), sX_refuse6, zcI_some]
      · rw [aM_M_make]
        unfold bM_M_make_0
        rw [sM_in4, zcI_some, zBp_t h1, if_pos o1, sM_in4, zcI_some, zBp_f h2, if_neg z0, sM_no6, zcI_some]
  · refine ⟨-1, _, _, ?_, ?_, aRel_refuse 1 h⟩
    · rw [aX_X_make]
      unfold bX_X_make_0
      rw [sX_isKind, zcI_some, zBp_f h1, if_neg z0, sX_refuse1, zcI_some]
    · rw [aM_M_make]
      unfold bM_M_make_0
      rw [sM_in4, zcI_some, zBp_f h1, if_neg z0, sM_no1, zcI_some]
theorem sim_wouldBe (a1 a2 a3 a4 a5 : Int32) : zSim aRel 92 150 [.inl a1, .inl a2, .inl a3, .inl a4, .inl a5] := by
  intro s t h
  obtain ⟨d, hd⟩ := zDp_8
  rw [hd]
  obtain ⟨W, hf, hX, hM, h4, h5, h6⟩ := id h
  have hn := hf.1
  have hMz := aMz_of hf hM
  by_cases h2 : zIn a1 4
  · obtain ⟨n, hn3, rfl⟩ := zIn_ex h2 (by omega)
    have hrt := aRel_told h (nI n) a2 a3 a4
    rcases aPrt (d + 3) hf hX hMz n (by omega) a2 a3 a4 with ⟨-, x1, m1, m2⟩ | ⟨u, hu, m1, m2, ⟨-, x1, m3⟩ | ⟨hfit, x1, m3, p1, p2, p3, p4⟩⟩
    · refine ⟨-1 - 10, _, _, ?_, ?_, aRel_refuse 1 hrt⟩
      · rw [aX_X_wouldBe]
        unfold bX_X_wouldBe_0
        rw [x1, zcI_some, if_neg (show ¬ (-1 : Int32) = 0 by decide), sX_ten1, zcI_some]
      · rw [aM_M_wouldBe]
        unfold bM_M_wouldBe_0
        rw [sM_in4, zcI_some, zBp_t h2, if_pos o1, m1, zcV_some, m2, zcI_some, if_neg z0, sM_ten1, zcI_some]
    · refine ⟨-6 - 10, _, _, ?_, ?_, aRel_refuse 6 hrt⟩
      · rw [aX_X_wouldBe]
        unfold bX_X_wouldBe_0
        rw [x1, zcI_some, if_neg (show ¬ (-6 : Int32) = 0 by decide), sX_ten6, zcI_some]
      · rw [aM_M_wouldBe]
        unfold bM_M_wouldBe_0
        rw [sM_in4, zcI_some, zBp_t h2, if_pos o1, m1, zcV_some, m2, zcI_some, if_pos o1, m3, zcI_some, if_neg z0, sM_ten6, zcI_some]
    · have hX1 : aX 2 (xTold s (nI n) a2 a3 a4) W := aX_fr (fun k h2 h11 i => xTold_o (by omega) (by omega)) hX
      have hM1 : aMz (mTold t a2 a3 a4) W := aMz_fr (fun k h1 h10 i => mTold_o (by omega)) rfl rfl rfl hMz
      have hlen : (pL u n).length = n := pL_len u n
      obtain ⟨s2, e1, e2, e3, e4, e5⟩ := fndX (d + 3) hf (by omega) p1 p2 hX1 p3
      obtain ⟨t2, f1, f2, f3, f4, f5⟩ := fndM (d + 3) hf (by omega) p1 p2 hM1 p4
      rw [hlen] at f1
      have hrel2 : aRel s2 t2 := aRel_mg hrt (fun k hk i => e3 k i (by omega) (by omega) (by omega) (by omega) (by omega)) e5 (fun k k0 k14 k16 k17 k18 k19 i => f3 k i k0 k16 k17 k18 k19) f4 f5
      by_cases hnone : mO W (pL u n) = none
      · refine ⟨99, s2, t2, ?_, ?_, hrel2⟩
        · rw [aX_X_wouldBe]
          unfold bX_X_wouldBe_0
          rw [x1, zcI_some, if_pos (show (0 : Int32) = 0 from rfl), e1, zcI_some, zBp_f (fun c => c hnone), if_neg z0]
        · rw [aM_M_wouldBe]
          unfold bM_M_wouldBe_0
          rw [sM_in4, zcI_some, zBp_t h2, if_pos o1, m1, zcV_some, m2, zcI_some, if_pos o1, m3, zcI_some, if_pos o1, f1, zcI_some, zBp_f (fun c => c hnone), if_neg z0]
      · obtain ⟨r, hr⟩ := Option.ne_none_iff_exists'.mp hnone
        obtain ⟨q1, q2, q3, q4⟩ := e2 r hr
        obtain ⟨q5, q6⟩ := f2 r hr
        have hrl := nd_len (aN W) r q3 q4
        by_cases h7 : a5 = -1
        · refine ⟨nI r.length, s2, t2, ?_, ?_, hrel2⟩
          · rw [aX_X_wouldBe]
            unfold bX_X_wouldBe_0
            rw [x1, zcI_some, if_pos (show (0 : Int32) = 0 from rfl), e1, zcI_some, zBp_t hnone, if_pos o1, if_neg (fun c => c h7), q1]
          · rw [aM_M_wouldBe]
            unfold bM_M_wouldBe_0
            rw [sM_in4, zcI_some, zBp_t h2, if_pos o1, m1, zcV_some, m2, zcI_some, if_pos o1, m3, zcI_some, if_pos o1, f1, zcI_some, zBp_t hnone, if_pos o1, if_neg (fun c => c h7), q5]
        · by_cases h8 : zIn a5 r.length
          · obtain ⟨i, hi, rfl⟩ := zIn_ex h8 (by omega)
            have hget : r[i]? = some r[i] := List.getElem?_eq_getElem hi
            refine ⟨nI r[i], s2, t2, ?_, ?_, hrel2⟩
            · rw [aX_X_wouldBe]
              unfold bX_X_wouldBe_0
              rw [x1, zcI_some, if_pos (show (0 : Int32) = 0 from rfl), e1, zcI_some, zBp_t hnone, if_pos o1, if_pos h7, if_neg (nI_pos (by omega)), q1, if_neg (nI_ge hi (by omega)), zin_nI (show i < 16 by omega) (by decide), nI_clamp (show i < 2 ^ 31 by omega), q2 i _ hget]
            · rw [aM_M_wouldBe]
              unfold bM_M_wouldBe_0
              rw [sM_in4, zcI_some, zBp_t h2, if_pos o1, m1, zcV_some, m2, zcI_some, if_pos o1, m3, zcI_some, if_pos o1, f1, zcI_some, zBp_t hnone, if_pos o1, if_pos h7, q5, sM_lim _ _ t2 (by omega), zcI_some, zBp_t h8, if_neg o1, zin_nI (show i < 17 by omega) (by decide), nI_clamp (show i < 2 ^ 31 by omega), q6 i _ hget]
          · refine ⟨-1, s2, t2, ?_, ?_, hrel2⟩
            · rw [aX_X_wouldBe]
              unfold bX_X_wouldBe_0
              rw [x1, zcI_some, if_pos (show (0 : Int32) = 0 from rfl), e1, zcI_some, zBp_t hnone, if_pos o1, if_pos h7, q1]
              by_cases h9 : a5 < 0
              · rw [if_pos h9]
              · rw [if_neg h9, if_pos ((zIn_not (by omega) h8).resolve_left h9)]
            · rw [aM_M_wouldBe]
              unfold bM_M_wouldBe_0
              rw [sM_in4, zcI_some, zBp_t h2, if_pos o1, m1, zcV_some, m2, zcI_some, if_pos o1, m3, zcI_some, if_pos o1, f1, zcI_some, zBp_t hnone, if_pos o1, if_pos h7, q5, sM_lim _ _ t2 (by omega), zcI_some, zBp_f h8, if_pos (show (0 : Int32) = 0 from rfl)]
  · refine ⟨-6 - 10, _, _, ?_, ?_, aRel_refuse 6 h⟩
    · rw [aX_X_wouldBe]
      unfold bX_X_wouldBe_0
      rw [aPrt_no (d + 3) _ _ _ _ h2, zcI_some, if_neg (show ¬ (-6 : Int32) = 0 by decide), sX_ten6, zcI_some]
    · rw [aM_M_wouldBe]
      unfold bM_M_wouldBe_0
      rw [sM_in4, zcI_some, zBp_f h2, if_neg z0, sM_ten6, zcI_some]
