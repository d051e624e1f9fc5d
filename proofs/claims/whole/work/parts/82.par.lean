/-! READ: the parents of an item -/
theorem rv_fr {k m : Nat} {T : Nat → Int32} {W0 W : aW} {s0 t0 s t s' t' : zS} {a : Nat} (h : rV k m T W0 s0 t0 W a s t) (hs : ∀ p i, (p < 36 ∨ 42 ≤ p) → zg s' p i = zg s p i) (hsl : ∀ p i, zgl s' p i = zgl s p i) (ht : ∀ p, p ≠ 0 → p ≠ 14 → p ≠ 16 → p ≠ 17 → p ≠ 18 → p ≠ 19 → ∀ i, zg t' p i = zg t p i) (ht0 : ∀ i, i ≠ 27 → zg t' 0 i = zg t 0 i) (htl : ∀ p i, zgl t' p i = zgl t p i) : rV k m T W0 s0 t0 W a s' t' := by
  obtain ⟨h1, h2, h3, h4, h5, h6, ⟨x1, x2, x3⟩, ⟨m1, m2, m3, m4⟩, h9, h10, h11⟩ := h
  refine ⟨h1, aX_fr (fun p h2 h11 i => hs p i (by omega)) h2, aMz_fr (fun p h1 h10 i => ht p (by omega) (by omega) (by omega) (by omega) (by omega) (by omega) i) (ht0 0 (by decide)) (ht0 10 (by decide)) (ht0 12 (by decide)) h3, h4, rFx_t h5 ⟨fun p e i => hs p i (by omega), hsl⟩, rFm_t h6 ⟨fun p e e2 e3 i => ht p (by omega) (by omega) (by omega) (by omega) (by omega) (by omega) i, fun i _ _ _ _ e => ht0 i e, htl⟩, ⟨(hs 42 2 (by decide)).trans x1, (hs 42 3 (by decide)).trans x2, fun i hi => (hs 43 i (by omega)).trans (x3 i hi)⟩, ⟨(ht0 17 (by decide)).trans m1, (ht 12 (by decide) (by decide) (by decide) (by decide) (by decide) (by decide) k).trans m2, fun i hi => by rw [htl]; exact m3 i hi, (ht0 18 (by decide)).trans m4⟩, h9, (hs 42 4 (by decide)).trans h10, (hs 42 0 (by decide)).trans h11⟩
theorem rBad_14 {W0 : aW} {s0 t0 s t : zS} {j : Nat} {v : Int32} (h : rBad W0 s0 t0 s t) : rBad W0 s0 t0 s (zs t 14 j v) := by
  obtain ⟨W, f, h1, h2, h3, h4, h5, h6, h7, h8, h9⟩ := h
  exact ⟨W, f, h1, h2, aMz_fr (fun p h1 h10 i => zgz_ne (by omega)) (zgz_ne (by decide)) (zgz_ne (by decide)) (zgz_ne (by decide)) h3, h4, h5, rFm_t h6 ⟨fun p e e2 e3 i => zgz_ne e2, fun i _ _ _ _ _ => zgz_ne (by decide), fun _ _ => rfl⟩, h7, h8, (zgz_ne (by decide)).trans h9⟩
theorem jk_un {k m : Nat} {T : Nat → Int32} {a : Nat} {s t : zS} (d e : Nat) (hk : k < 8) (hm : m ≤ 160) (ha : a ≤ m) (hx : ktX m T a s) (ht : ktM k m T a t) : (∃ b s' t', a < b ∧ b ≤ m ∧ zcall zMs skX (d + 2) 23 [.inr (.inr 42), .inl 0] s = some (some (.inl 1), s') ∧ zcall zMs skM (e + 3) 154 [.inr (.inr 0)] t = some (some (.inl 1), t') ∧ kFX s s' ∧ kFM t t' ∧ zg s' 42 3 = nI b ∧ zg t' 0 18 = nI b ∧ zg t' 0 20 = nI a ∧ zg s' 42 5 = zg t' 0 19) ∨ (∃ t', zcall zMs skX (d + 2) 23 [.inr (.inr 42), .inl 0] s = some (some (.inl 0), zs s 42 4 (nI a)) ∧ zcall zMs skM (e + 3) 154 [.inr (.inr 0)] t = some (some (.inl 0), t') ∧ kFM t t' ∧ zg t' 0 18 = nI a) := by
  obtain ⟨y1, y2, y3⟩ := xk_num d hm ha hx
  obtain ⟨n1, n2, n3⟩ := mk_num e hk hm ha ht
  by_cases e1 : tkD m T a
  · have hl1 := e1.1
    by_cases e2 : tkD m T (a + 1)
    · have hl2 := e2.1
      obtain ⟨s', z1, z2, z3, z4⟩ := y3 e1 e2
      obtain ⟨t', w1, w2, w3, w4, w5⟩ := n3 e1 e2
      exact Or.inl ⟨a + 2, s', t', by omega, by omega, z1, w1, z2, w2, z3, w3, w4, z4.trans w5.symm⟩
    · obtain ⟨s', z1, z2, z3, z4⟩ := y2 e1 e2
      obtain ⟨t', w1, w2, w3, w4, w5⟩ := n2 e1 e2
      exact Or.inl ⟨a + 1, s', t', by omega, by omega, z1, w1, z2, w2, z3, w3, w4, z4.trans w5.symm⟩
  · obtain ⟨t', w1, w2, w3, w4⟩ := n1 e1
    exact Or.inr ⟨t', y1 e1, w1, w2, w3⟩
theorem get_lt {ps : List Nat} {i : Nat} (h : i < ps.length) : ∃ x, ps[i]? = some x ∧ x ∈ ps := ⟨ps[i], List.getElem?_eq_getElem h, List.getElem_mem h⟩
theorem xk_tells {s : zS} {ps : List Nat} {u : Nat} (d : Nat) (hl : ps.length ≤ 3) (hps : ∀ x, x ∈ ps → x < 16) (hu : u < 16) (hT : tX s ps) : zcall zMs skX (d + 1) 7 [.inr (.inr 36), .inl (nI u)] s = some (some (.inl (zBp (u ∈ ps))), s) := by
  have key : ∀ (f i K : Nat), i + f = ps.length → f < K → zexec skX (zcall zMs skX d) zT_G_tells 3 K 2 [some (.inr (.inr 36)), some (.inl (nI u)), some (.inl (nI i))] [] s = some (some (.inl (zBp (∃ j, i ≤ j ∧ ps[j]? = some u))), s) := by
    intro f
    induction f with
    | zero =>
      intro i K hi hK
      obtain ⟨K, rfl⟩ : ∃ K', K = K' + 1 := ⟨K - 1, by omega⟩
      rw [hX_G_tells_2]
      unfold bX_G_tells_2
      rw [hT.1, if_pos (nI_le (by omega) (by omega)), zbo_0, zBp_f]
      rintro ⟨j, h1, h2⟩
      have := (List.getElem?_eq_some_iff.mp h2).1
      omega
    | succ f ih =>
      intro i K hi hK
      obtain ⟨K, rfl⟩ : ∃ K', K = K' + 1 := ⟨K - 1, by omega⟩
      obtain ⟨x, hx, hxm⟩ := get_lt (ps := ps) (i := i) (by omega)
      have hx16 := hps x hxm
      rw [hX_G_tells_2]
      unfold bX_G_tells_2
      rw [hT.1, if_neg (nI_ge (show i < ps.length by omega) (by omega)), zin_nI (show i < 3 by omega) (by decide), nI_clamp (show i < 2 ^ 31 by omega), hT.2 i x hx]
      by_cases he : x = u
      · rw [if_neg (show ¬ ¬ nI x = nI u from fun c => c (by rw [he])), zbo_1, zBp_t ⟨i, Nat.le_refl _, by rw [hx, he]⟩]
      · rw [if_pos (show ¬ nI x = nI u from fun c => he ((nI_inj16 hx16 hu).mp c)), nI_1, ih (i + 1) K (by omega) (by omega), zB_iff]
        constructor
        · rintro ⟨j, h1, h2⟩
          exact ⟨j, by omega, h2⟩
        · rintro ⟨j, h1, h2⟩
          by_cases hj : j = i
          · rw [hj, hx] at h2
            exact absurd (Option.some.inj h2) he
          · exact ⟨j, by omega, h2⟩
  rw [aX_G_tells]
  unfold bX_G_tells_0
  have := key ps.length 0 19999 (by omega) (by omega)
  rw [nI_0] at this
  rw [this, zB_iff]
  constructor
  · rintro ⟨j, -, h⟩
    exact List.mem_of_getElem? h
  · intro h
    obtain ⟨j, hj⟩ := List.getElem?_of_mem h
    exact ⟨j, Nat.zero_le _, hj⟩
theorem mIn_add {f g : Nat → Int32} {ps : List Nat} {u : Nat} (h : mIn f ps) (hg : g ps.length = nI u) (hne : ∀ i, i ≠ ps.length → g i = f i) : mIn g (ps ++ [u]) := by
  intro j x hj
  by_cases hl : j < ps.length
  · rw [List.getElem?_append_left hl] at hj
    rw [hne j (by omega)]
    exact h j x hj
  · have hlt := (List.getElem?_eq_some_iff.mp hj).1
    rw [List.length_append, List.length_singleton] at hlt
    have hj2 : j = ps.length := by omega
    subst hj2
    rw [List.getElem?_append_right (Nat.le_refl _), Nat.sub_self] at hj
    have : u = x := Option.some.inj hj
    rw [hg, this]
theorem xk_tell1 {s : zS} {ps : List Nat} {u : Nat} (d : Nat) (hl : ps.length < 3) (hT : tX s ps) : ∃ s', zcall zMs skX (d + 1) 8 [.inr (.inr 36), .inl (nI u)] s = some (none, s') ∧ tX s' (ps ++ [u]) ∧ (∀ p i, (p < 36 ∨ 42 ≤ p) → zg s' p i = zg s p i) ∧ ∀ p i, zgl s' p i = zgl s p i := by
  refine ⟨zs (zs s 37 ps.length (nI u)) 36 1 (nI (ps.length + 1)), ?_, ⟨?_, ?_⟩, fun p i h => ?_, fun _ _ => rfl⟩
  · rw [aX_G_tellOneMore]
    unfold bX_G_tellOneMore_0
    rw [hT.1, if_neg (show ¬ (3 : Int32) ≤ nI ps.length from nI_ge (show ps.length < 3 by omega) (by decide)), zin_nI hl (by decide), nI_clamp (show ps.length < 2 ^ 31 by omega)]
    dsimp only
    rw [nI_1]
  · rw [zgz_eq, List.length_append, List.length_singleton]
  · exact mIn_add hT.2 ((zgz_ne (by decide)).trans zgz_eq) (fun i hi => (zgz_ne (by decide)).trans (zgz_nj hi))
  · rw [zgz_ne (by omega), zgz_ne (by omega)]
theorem mk_no {t : zS} {j : Nat} (C : Nat → List zV → zS → zR) (hj : j < 3) : ∀ (f i K : Nat), i + f = j → f < K → zexec skM C zT_M_isParent 3 K 23 [some (.inr (.inr 0)), some (.inl (nI j)), some (.inl 0), some (.inl (nI i))] [] t = some (some (.inl 0), zs (zs t 0 18 (zg t 0 20)) 14 j (zg t 0 19)) := by
  intro f
  induction f with
  | zero =>
    intro i K hi hK
    obtain ⟨K, rfl⟩ : ∃ K', K = K' + 1 := ⟨K - 1, by omega⟩
    rw [hM_M_isParent_23]
    unfold bM_M_isParent_23
    rw [if_pos (nI_le (by omega) (by omega)), if_neg z0]
    dsimp only
    rw [zin_nI hj (by decide), nI_clamp (show j < 2 ^ 31 by omega), zbo_0]
  | succ f ih =>
    intro i K hi hK
    obtain ⟨K, rfl⟩ : ∃ K', K = K' + 1 := ⟨K - 1, by omega⟩
    rw [hM_M_isParent_23]
    unfold bM_M_isParent_23
    rw [if_neg (nI_ge (show i < j by omega) (by omega)), zin_nI (show i < 3 by omega) (by decide), nI_1, ih (i + 1) K (by omega) (by omega), ite_self]
theorem mk_yes {t : zS} {ps : List Nat} {u : Nat} (C : Nat → List zV → zS → zR) (hj : ps.length < 3) (hps : ∀ x, x ∈ ps → x < 16) (hu : u < 16) (hT : mIn (zg t 14) ps) (h19 : zg t 0 19 = nI u) : ∀ (f i K : Nat), i + f = ps.length → f < K → ((∃ j, i ≤ j ∧ ps[j]? = some u) → zexec skM C zT_M_isParent 3 K 23 [some (.inr (.inr 0)), some (.inl (nI ps.length)), some (.inl 1), some (.inl (nI i))] [] t = some (some (.inl 0), zs (zs t 0 18 (zg t 0 20)) 14 ps.length (zg t 0 19))) ∧ (¬ (∃ j, i ≤ j ∧ ps[j]? = some u) → zexec skM C zT_M_isParent 3 K 23 [some (.inr (.inr 0)), some (.inl (nI ps.length)), some (.inl 1), some (.inl (nI i))] [] t = some (some (.inl 1), zs t 14 ps.length (nI u))) := by
  intro f
  induction f with
  | zero =>
    intro i K hi hK
    obtain ⟨K, rfl⟩ : ∃ K', K = K' + 1 := ⟨K - 1, by omega⟩
    refine ⟨?_, fun _ => ?_⟩
    · rintro ⟨j, h1, h2⟩
      have := (List.getElem?_eq_some_iff.mp h2).1
      omega
    · rw [hM_M_isParent_23]
      unfold bM_M_isParent_23
      rw [if_pos (nI_le (by omega) (by omega)), if_pos o1]
      rw [zin_nI hj (by decide), nI_clamp (show ps.length < 2 ^ 31 by omega), zbo_1, h19]
  | succ f ih =>
    intro i K hi hK
    obtain ⟨K, rfl⟩ : ∃ K', K = K' + 1 := ⟨K - 1, by omega⟩
    obtain ⟨x, hx, hxm⟩ := get_lt (ps := ps) (i := i) (by omega)
    have hx16 := hps x hxm
    rw [hM_M_isParent_23]
    unfold bM_M_isParent_23
    rw [if_neg (nI_ge (show i < ps.length by omega) (by omega)), zin_nI (show i < 3 by omega) (by decide), nI_clamp (show i < 2 ^ 31 by omega), hT i x hx, nI_1]
    by_cases he : x = u
    · rw [h19, if_neg (show ¬ ¬ nI x = nI u from fun c => c (by rw [he])), ← h19, mk_no C hj f (i + 1) K (by omega) (by omega)]
      exact ⟨fun _ => rfl, fun c => absurd ⟨i, Nat.le_refl _, by rw [hx, he]⟩ c⟩
    · obtain ⟨r1, r2⟩ := ih (i + 1) K (by omega) (by omega)
      rw [h19, if_pos (show ¬ nI x = nI u from fun c => he ((nI_inj16 hx16 hu).mp c))]
      rw [h19] at r1
      refine ⟨?_, fun c => r2 (fun ⟨j, h1, h2⟩ => c ⟨j, by omega, h2⟩)⟩
      rintro ⟨j, h1, h2⟩
      by_cases hj : j = i
      · rw [hj, hx] at h2
        exact absurd (Option.some.inj h2) he
      · exact r1 ⟨j, by omega, h2⟩
