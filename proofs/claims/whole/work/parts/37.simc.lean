theorem i10 : ((1 : Int32) = 0) = False := by simp
theorem im10 : ((-1 : Int32) = 0) = False := by simp
theorem aSh_put {n : Nat} {s t : zS} {k : Nat} {v : Int32} (hk : k < 8) (h : aSh n s t) (hv : v = -1 ∨ ∃ o, o < n ∧ v = nI o) : aSh n (zs s 33 k v) (zs t 11 k v) := by
  intro j hj
  obtain ⟨h1, h2⟩ := h j hj
  simp only [zg_zs, zgl_zs]
  by_cases he : j = k
  · subst he
    simp only [if_true]
    exact ⟨trivial, hv.elim Or.inl (fun h => Or.inr (Or.inl h))⟩
  · simp only [if_true, if_neg he, show (34 : Nat) = 33 ↔ False by decide, show (12 : Nat) = 11 ↔ False by decide, if_false]
    exact ⟨h1, h2⟩
theorem sim_show (a1 a2 : Int32) : zSim aRel 86 138 [.inl a1, .inl a2] := by
  intro s t h
  obtain ⟨d, hd⟩ := zDp_e
  rw [hd]
  obtain ⟨W, hf, hX, hM, h4, h5, h6⟩ := id h
  have hn := hf.1
  by_cases h1 : zIn a1 8
  · obtain ⟨k, hk, rfl⟩ := zIn_ex h1 (by omega)
    have keep : ∀ v : Int32, (v = -1 ∨ ∃ o, o < aN W ∧ v = nI o) → aRel (zs s 33 k v) (zs t 11 k v) := by
      intro v hv
      refine ⟨W, hf, hX, ?_, aSh_put hk h4 hv, h5, h6⟩
      rw [mFl_off (t := t) (t' := zs t 11 k v) (fun p hp j => by rw [zg_zs, if_neg (by omega)])]
      exact hM
    by_cases h2 : a2 = -1
    · subst h2
      refine ⟨0, zs s 33 k (-1), zs t 11 k (-1), ?_, ?_, keep _ (Or.inl rfl)⟩
      · simp only [aX_X_show, bX_X_show_0, sX_isShelf, zcI_some, zBp_t h1, i10, if_false, if_true, not_true_eq_false, zin_nI hk (show 8 < 2 ^ 31 by decide), nI_clamp (show k < 2 ^ 31 by omega)]
      · simp only [aM_M_show, bM_M_show_0, sM_in8, zcI_some, zBp_t h1, i10, if_false, if_true, not_true_eq_false, zin_nI hk (show 8 < 2 ^ 31 by decide), nI_clamp (show k < 2 ^ 31 by omega)]
    · by_cases h3 : zIn a2 (aN W)
      · obtain ⟨o, ho, rfl⟩ := zIn_ex h3 (by omega)
        refine ⟨1, zs s 33 k (nI o), zs t 11 k (nI o), ?_, ?_, keep _ (Or.inr ⟨o, ho, rfl⟩)⟩
        · simp only [aX_X_show, bX_X_show_0, sX_isShelf, sX_hasObject (n := aN W) _ _ s hX.1 hf.1, zcI_some, zBp_t h1, zBp_t h3, h2, i10, if_false, if_true, not_false_eq_true, zin_nI hk (show 8 < 2 ^ 31 by decide), nI_clamp (show k < 2 ^ 31 by omega)]
        · simp only [aM_M_show, bM_M_show_0, sM_in8, sM_isOne (n := aN W) _ _ t (aM_n hM) hf.1, zcI_some, zBp_t h1, zBp_t h3, h2, i10, if_false, if_true, not_false_eq_true, zin_nI hk (show 8 < 2 ^ 31 by decide), nI_clamp (show k < 2 ^ 31 by omega)]
      · refine ⟨-1, _, _, ?_, ?_, aRel_refuse 1 h⟩
        · simp only [aX_X_show, bX_X_show_0, sX_isShelf, sX_hasObject (n := aN W) _ _ s hX.1 hf.1, sX_refuse1, zcI_some, zBp_t h1, zBp_f h3, h2, i10, if_false, if_true, not_true_eq_false]
        · simp only [aM_M_show, bM_M_show_0, sM_in8, sM_isOne (n := aN W) _ _ t (aM_n hM) hf.1, sM_no1, zcI_some, zBp_t h1, zBp_f h3, h2, i10, if_false, if_true, not_true_eq_false]
  · refine ⟨-1, _, _, ?_, ?_, aRel_refuse 1 h⟩
    · simp only [aX_X_show, bX_X_show_0, sX_isShelf, sX_refuse1, zcI_some, zBp_f h1, if_true]
    · simp only [aM_M_show, bM_M_show_0, sM_in8, sM_no1, zcI_some, zBp_f h1, if_true]
