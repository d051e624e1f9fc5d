/-! THE CALLS, one by one: first those that loop nowhere -/
theorem zDp_e : ∃ d, zDp = d + 1000 := ⟨500, rfl⟩
theorem mFl_off {t t' : zS} (h : ∀ p, p ≤ 10 → ∀ j, zg t' p j = zg t p j) : mFl t' = mFl t := by
  funext i
  unfold mFl
  rw [h 6 (by omega), h 7 (by omega), h 8 (by omega), h 9 (by omega), h 1 (by omega), h 2 (by omega), h 4 (by omega), h 3 (by omega), h 5 (by omega), h 10 (by omega), h 0 (by omega), h 0 (by omega), h 0 (by omega)]
theorem mFl_seed {t : zS} {v : Int32} {i : Nat} (h : i < 1090) : mFl (zs t 0 12 v) i = mFl t i := by
  have hp : ∀ p j, p ≠ 0 → zg (zs t 0 12 v) p j = zg t p j := fun p j hp => by rw [zg_zs, if_neg hp]
  have hc : i < 1088 ∨ i = 1088 ∨ i = 1089 := by omega
  rcases hc with hlt | rfl | rfl
  · unfold mFl
    rw [hp 6 _ (by decide), hp 7 _ (by decide), hp 8 _ (by decide), hp 9 _ (by decide), hp 1 _ (by decide), hp 2 _ (by decide), hp 4 _ (by decide), hp 3 _ (by decide), hp 5 _ (by decide), hp 10 _ (by decide)]
    simp only [hlt, if_true]
  · rfl
  · rfl
theorem sim_fault : zSim aRel 90 161 [] := by
  intro s t h
  obtain ⟨d, hd⟩ := zDp_e
  rw [hd]
  obtain ⟨W, -, -, -, -, ⟨-, r2, -⟩, -⟩ := id h
  refine ⟨zg s 0 8, s, t, ?_, ?_, h⟩
  · rw [aX_X_fault]; rfl
  · rw [aM_M_fault, r2]; rfl
theorem sim_given : zSim aRel 103 190 [] := by
  intro s t h
  obtain ⟨d, hd⟩ := zDp_e
  rw [hd]
  obtain ⟨W, -, -, -, -, ⟨-, -, r3, -⟩, -⟩ := id h
  refine ⟨zg s 0 9, s, t, ?_, ?_, h⟩
  · rw [aX_X_given]; rfl
  · rw [aM_M_given, r3]; rfl
theorem sim_holds (a1 : Int32) : zSim aRel 87 139 [.inl a1] := by
  intro s t h
  obtain ⟨d, hd⟩ := zDp_e
  rw [hd]
  obtain ⟨W, -, -, -, h4, -, -⟩ := id h
  rw [aX_X_holds, aM_M_holds]
  unfold bX_X_holds_0 bM_M_holds_0
  rw [sX_isShelf, sM_in8, zcI_some, zcI_some]
  by_cases hz : zIn a1 8
  · obtain ⟨k, hk, rfl⟩ := zIn_ex hz (by omega)
    rw [zBp_t hz, if_neg (by decide), if_neg (by decide), zin_nI hk (by omega), zin_nI hk (by omega), nI_clamp (by omega)]
    exact ⟨zg s 33 k, s, t, rfl, by rw [(h4 k hk).1], h⟩
  · rw [zBp_f hz, if_pos rfl, if_pos rfl]
    exact ⟨-1, s, t, rfl, rfl, h⟩
theorem sim_seed (a1 : Int32) : zSim aRel 113 208 [.inl a1] := by
  intro s t h
  obtain ⟨d, hd⟩ := zDp_e
  rw [hd]
  obtain ⟨W, h1, h2, h3, h4, h5, h6⟩ := h
  rw [aX_X_seed, aM_M_seed]
  unfold bX_X_seed_0 bM_M_seed_0
  refine ⟨zg s 2 2, zs s 2 2 a1, zs t 0 12 a1, rfl, ?_, ?_⟩
  · have e1 := h2.2.2.1
    have e2 : zg t 0 12 = aSd W := h3.2.2.1
    show some (some (Sum.inl (zg t 0 12)), zs t 0 12 a1) = _
    rw [e1, e2]
  · refine ⟨(aN W, aK W, aP W, aO W, aS W, aWn W, aWy W, a1), h1, ?_, ?_, h4, h5, h6⟩
    · exact ⟨h2.1, h2.2.1, rfl, h2.2.2.2⟩
    · obtain ⟨m1, m2, m3, m4, m5, m6, m7⟩ := h3
      have hn : ∀ o, o < aN W → o < 16 := fun o ho => Nat.lt_of_lt_of_le ho h1.1
      have hw : ∀ w, w < aWn W → w < 32 := fun w ho => Nat.lt_of_lt_of_le ho h1.2.1
      refine ⟨m1, m2, rfl, ?_, ?_, ?_, ?_⟩
      · intro o ho
        have := hn o ho
        obtain ⟨q1, q2, q3, q4, q5⟩ := m4 o ho
        refine ⟨by rw [mFl_seed (by omega)]; exact q1, by rw [mFl_seed (by omega)]; exact q2, fun i hi => by rw [mFl_seed (by omega)]; exact q3 i hi, by rw [mFl_seed (by omega)]; exact q4, fun i p hp => ?_⟩
        have hi : i < 16 := Nat.lt_of_lt_of_le (List.getElem?_eq_some_iff.mp hp).1 (h1.2.2.1 o ho).2.2.2.2.1
        rw [mFl_seed (by omega)]
        exact q5 i p hp
      · intro o ho
        have := hn o ho
        obtain ⟨q1, q2⟩ := m5 o ho
        exact ⟨by rw [mFl_seed (by omega)]; exact q1, by rw [mFl_seed (by omega)]; exact q2⟩
      · intro o i ho hi hz
        have := hn o ho
        obtain ⟨q1, q2⟩ := m6 o i ho hi hz
        exact ⟨by rw [mFl_seed (by omega)]; exact q1, by rw [mFl_seed (by omega)]; exact q2⟩
      · intro w i hw1 hi
        have := hw w hw1
        rw [mFl_seed (by omega)]
        exact m7 w i hw1 hi
