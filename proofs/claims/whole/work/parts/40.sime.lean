/-! trace, slotOf, wayOf, element -/
theorem sM_min30 (d k : Nat) (t : zS) (hk : k ≤ 1000) : zcall zMs skM (d + 1) 217 [.inl 30, .inl (nI k)] t = some (some (.inl (nI (min 30 k))), t) := by
  rw [aM_J_min]
  unfold bM_J_min_0
  by_cases h : k < 30
  · rw [if_pos (by rw [zlt, nI_toInt (by omega), show (30 : Int32).toInt = 30 by decide]; omega), Nat.min_eq_right (by omega)]
  · rw [if_neg (by rw [zlt, nI_toInt (by omega), show (30 : Int32).toInt = 30 by decide]; omega), Nat.min_eq_left (by omega)]
    rfl
theorem sim_trace (a1 : Int32) : zSim aRel 110 202 [.inl a1] := by
  intro s t h
  obtain ⟨d, hd⟩ := zDp_e
  rw [hd]
  obtain ⟨W, hf, hX, hM, h4, h5, h6⟩ := id h
  obtain ⟨k, hk, e1, e2, e3⟩ := h5.2.2.2.2
  by_cases h1 : zIn a1 (min 30 k)
  · obtain ⟨i, hi, rfl⟩ := zIn_ex h1 (by omega)
    refine ⟨zg s 17 i, s, t, ?_, ?_, h⟩
    · rw [aX_X_trace]
      unfold bX_X_trace_0
      rw [if_neg (nI_pos (by omega)), e1, if_neg (nI_ge (by omega) (by omega)), if_neg (by rw [zle, nI_toInt (by omega), show (30 : Int32).toInt = 30 by decide]; omega), zin_nI (by omega) (by omega), nI_clamp (by omega)]
    · rw [aM_M_trace]
      unfold bM_M_trace_0
      rw [e2, sM_min30 _ k t hk, zcI_some, sM_lim _ _ t (by omega), zcI_some, zBp_t h1, if_neg (by decide), zin_nI (by omega) (by omega), nI_clamp (by omega), e3 i (by omega) (by omega)]
  · refine ⟨-1, s, t, ?_, ?_, h⟩
    · rw [aX_X_trace]
      unfold bX_X_trace_0
      rw [e1]
      by_cases h2 : a1 < 0
      · rw [if_pos h2]
      · rw [if_neg h2]
        by_cases h3 : nI k ≤ a1
        · rw [if_pos h3]
        · rw [if_neg h3, if_pos]
          have := (zIn_not (by omega) h1).resolve_left h2
          rw [zle, nI_toInt (by omega)] at this h3
          rw [zle, show (30 : Int32).toInt = 30 by decide]
          omega
    · rw [aM_M_trace]
      unfold bM_M_trace_0
      rw [e2, sM_min30 _ k t hk, zcI_some, sM_lim _ _ t (by omega), zcI_some, zBp_f h1, if_pos rfl]
theorem aM_mbit {t : zS} {W : aW} {o i : Nat} (hf : aWf W) (hM : aM (mFl t) W) (ho : o < aN W) (hi : i < 16) : (((zg t 7 o) >>> (nI i &&& 31)) &&& (1 : Int32)) = zBp ((aS W o i).1 = 2) := by
  rw [((aMz_of hf hM).2.2.2.2.1 o ho).2, sh_bit _ i hi, aB_bit _ 16 (Nat.le_refl _) i (by omega)]
  by_cases h : (aS W o i).1 = 2
  · rw [zBp_t h]
    simp [hi, h]
  · rw [zBp_f h]
    simp [h]
theorem nI_is2 : ∀ g, g ≤ 2 → ((nI g = 2) ↔ g = 2) := by decide
theorem sim_slotOf (a1 a2 a3 : Int32) : zSim aRel 101 176 [.inl a1, .inl a2, .inl a3] := by
  intro s t h
  obtain ⟨d, hd⟩ := zDp_e
  rw [hd]
  obtain ⟨W, hf, hX, hM, h4, h5, h6⟩ := id h
  have hn := hf.1
  by_cases h1 : zIn a1 (aN W)
  · by_cases h2 : zIn a2 16
    · obtain ⟨o, ho, rfl⟩ := zIn_ex h1 (by omega)
      obtain ⟨i, hi, rfl⟩ := zIn_ex h2 (by omega)
      have h16 := aWf_lt hf ho
      by_cases hh : aHas W o i = true
      · have hz : (aS W o i).1 ≠ 0 := by
          unfold aHas at hh
          simpa using hh
        obtain ⟨x1, x2⟩ := (hX.2.2.2.2.1 o i ho hi).2 hz
        obtain ⟨y1, y2⟩ := (aMz_of hf hM).2.2.2.2.2.1 o i ho hi hz
        by_cases c0 : a3 = 0
        · refine ⟨zBp ((aS W o i).1 = 2), s, t, ?_, ?_, h⟩
          · simp only [aX_X_slotOf, bX_X_slotOf_0, sX_hasObject (n := aN W) _ _ s hX.1 hf.1, sX_isSlot, sX_hasOwn _ o i s hf hX ho hi, zcI_some, zBp_t h1, zBp_t h2, zBp_t hh, i10, if_true, if_false, not_true_eq_false, not_false_eq_true, c0, nlit16, zin_nI (show o * 16 + i < 256 by omega) (show 256 < 2 ^ 31 by decide), nI_clamp (show o * 16 + i < 2 ^ 31 by omega), aX_slot hX ho hi, nI_is2 _ (aWf_tag hf ho hi)]
            by_cases c : (aS W o i).1 = 2
            · rw [if_neg (fun e => e c), zBp_t c]
            · rw [if_pos c, zBp_f c]
          · simp only [aM_M_slotOf, bM_M_slotOf_0, sM_isOne (n := aN W) _ _ t (aM_n hM) hf.1, sM_isSlot, aM_has hf hM ho, sM_isIn _ _ i hi, zcI_some, zBp_t h1, zBp_t h2, zBp_t hh, i10, if_true, if_false, not_true_eq_false, not_false_eq_true, c0, zin_nI h16 (show 16 < 2 ^ 31 by decide), nI_clamp (show o < 2 ^ 31 by omega), aM_mbit hf hM ho hi]
        · by_cases c1 : a3 = (0 : Int32) + 1
          · refine ⟨(aS W o i).2.1, s, t, ?_, ?_, h⟩
            · simp only [aX_X_slotOf, bX_X_slotOf_0, sX_hasObject (n := aN W) _ _ s hX.1 hf.1, sX_isSlot, sX_hasOwn _ o i s hf hX ho hi, zcI_some, zBp_t h1, zBp_t h2, zBp_t hh, i10, if_true, if_false, not_true_eq_false, not_false_eq_true, if_neg c0, if_pos c1, nlit16, zin_nI (show o * 16 + i < 256 by omega) (show 256 < 2 ^ 31 by decide), nI_clamp (show o * 16 + i < 2 ^ 31 by omega)]
              exact congrArg (fun v => some (some (Sum.inl v), s)) x1
            · simp only [aM_M_slotOf, bM_M_slotOf_0, sM_isOne (n := aN W) _ _ t (aM_n hM) hf.1, sM_isSlot, aM_has hf hM ho, sM_isIn _ _ i hi, zcI_some, zBp_t h1, zBp_t h2, zBp_t hh, i10, if_true, if_false, not_true_eq_false, not_false_eq_true, if_neg c0, if_pos c1, nlit16', zin_nI h16 (show 16 < 2 ^ 31 by decide), nI_clamp (show o < 2 ^ 31 by omega), zin_nI (show 16 * o + i < 256 by omega) (show 256 < 2 ^ 31 by decide), nI_clamp (show 16 * o + i < 2 ^ 31 by omega)]
              exact congrArg (fun v => some (some (Sum.inl v), t)) y1
          · by_cases c2 : a3 = (0 : Int32) + 1 + 1
            · refine ⟨(aS W o i).2.2, s, t, ?_, ?_, h⟩
              · simp only [aX_X_slotOf, bX_X_slotOf_0, sX_hasObject (n := aN W) _ _ s hX.1 hf.1, sX_isSlot, sX_hasOwn _ o i s hf hX ho hi, zcI_some, zBp_t h1, zBp_t h2, zBp_t hh, i10, if_true, if_false, not_true_eq_false, not_false_eq_true, if_neg c0, if_neg c1, if_pos c2, nlit16, zin_nI (show o * 16 + i < 256 by omega) (show 256 < 2 ^ 31 by decide), nI_clamp (show o * 16 + i < 2 ^ 31 by omega)]
                exact congrArg (fun v => some (some (Sum.inl v), s)) x2
              · simp only [aM_M_slotOf, bM_M_slotOf_0, sM_isOne (n := aN W) _ _ t (aM_n hM) hf.1, sM_isSlot, aM_has hf hM ho, sM_isIn _ _ i hi, zcI_some, zBp_t h1, zBp_t h2, zBp_t hh, i10, if_true, if_false, not_true_eq_false, not_false_eq_true, if_neg c0, if_neg c1, if_pos c2, nlit16', zin_nI h16 (show 16 < 2 ^ 31 by decide), nI_clamp (show o < 2 ^ 31 by omega), zin_nI (show 16 * o + i < 256 by omega) (show 256 < 2 ^ 31 by decide), nI_clamp (show 16 * o + i < 2 ^ 31 by omega)]
                exact congrArg (fun v => some (some (Sum.inl v), t)) y2
            · refine ⟨0, s, t, ?_, ?_, h⟩
              · simp only [aX_X_slotOf, bX_X_slotOf_0, sX_hasObject (n := aN W) _ _ s hX.1 hf.1, sX_isSlot, sX_hasOwn _ o i s hf hX ho hi, zcI_some, zBp_t h1, zBp_t h2, zBp_t hh, i10, if_true, if_false, not_true_eq_false, not_false_eq_true, if_neg c0, if_neg c1, if_neg c2]
              · simp only [aM_M_slotOf, bM_M_slotOf_0, sM_isOne (n := aN W) _ _ t (aM_n hM) hf.1, sM_isSlot, aM_has hf hM ho, sM_isIn _ _ i hi, zcI_some, zBp_t h1, zBp_t h2, zBp_t hh, i10, if_true, if_false, not_true_eq_false, not_false_eq_true, if_neg c0, if_neg c1, if_neg c2, zin_nI h16 (show 16 < 2 ^ 31 by decide), nI_clamp (show o < 2 ^ 31 by omega)]
      · refine ⟨0, s, t, ?_, ?_, h⟩
        · simp only [aX_X_slotOf, bX_X_slotOf_0, sX_hasObject (n := aN W) _ _ s hX.1 hf.1, sX_isSlot, sX_hasOwn _ o i s hf hX ho hi, zcI_some, zBp_t h1, zBp_t h2, zBp_f hh, i10, if_true, if_false, not_true_eq_false, not_false_eq_true]
        · simp only [aM_M_slotOf, bM_M_slotOf_0, sM_isOne (n := aN W) _ _ t (aM_n hM) hf.1, sM_isSlot, aM_has hf hM ho, sM_isIn _ _ i hi, zcI_some, zBp_t h1, zBp_t h2, zBp_f hh, i10, if_true, if_false, not_true_eq_false, not_false_eq_true, zin_nI h16 (show 16 < 2 ^ 31 by decide), nI_clamp (show o < 2 ^ 31 by omega)]
    · refine ⟨0, s, t, ?_, ?_, h⟩
      · simp only [aX_X_slotOf, bX_X_slotOf_0, sX_hasObject (n := aN W) _ _ s hX.1 hf.1, sX_isSlot, zcI_some, zBp_t h1, zBp_f h2, i10, if_true, if_false, not_true_eq_false, not_false_eq_true]
      · simp only [aM_M_slotOf, bM_M_slotOf_0, sM_isOne (n := aN W) _ _ t (aM_n hM) hf.1, sM_isSlot, zcI_some, zBp_t h1, zBp_f h2, i10, if_true, if_false, not_true_eq_false, not_false_eq_true]
  · refine ⟨0, s, t, ?_, ?_, h⟩
    · simp only [aX_X_slotOf, bX_X_slotOf_0, sX_hasObject (n := aN W) _ _ s hX.1 hf.1, zcI_some, zBp_f h1, i10, if_true, if_false, not_true_eq_false, not_false_eq_true]
    · simp only [aM_M_slotOf, bM_M_slotOf_0, sM_isOne (n := aN W) _ _ t (aM_n hM) hf.1, zcI_some, zBp_f h1, i10, if_true, if_false, not_true_eq_false, not_false_eq_true]
theorem nlit32' (u w : Nat) : (32 : Int32) * nI u + nI w = nI (32 * u + w) := by
  rw [show (32 : Int32) = nI 32 from rfl, pk_mul, nI_add]
theorem sM_in6 (d : Nat) (x : Int32) (s : zS) : zcall zMs skM (d + 1) 128 [.inl x, .inl 0, .inl 5] s = some (some (.inl (zBp (zIn x 6))), s) := by
  rw [sM_within, zB_iff (q := zIn x 6) (by unfold zIn; rw [t0, show (5 : Int32).toInt = 5 by decide]; omega)]
theorem sX_wayPart {W : aW} (d w u : Nat) (s : zS) (hf : aWf W) (hX : aX 2 s W) (hw : w < aWn W) (hu : u < 6) : zcall zMs skX (d + 1) 65 [.inr (.inr 2), .inl (nI w), .inl (nI u)] s = some (some (.inl (aWy W w u)), s) := by
  have hn := hf.2.1
  rw [aX_W_wayPart]
  unfold bX_W_wayPart_0
  rw [nlit6, zin_nI (by omega) (by omega), nI_clamp (by omega), show zg s 11 (w * 6 + u) = aWy W w u from hX.2.2.2.2.2 w u hw hu]
theorem sM_way {W : aW} (d w u : Nat) (t : zS) (hf : aWf W) (hM : aM (mFl t) W) (hw : w < aWn W) (hu : u < 6) : zcall zMs skM (d + 1) 184 [.inr (.inr 0), .inl (nI u), .inl (nI w)] t = some (some (.inl (aWy W w u)), t) := by
  have hn := hf.2.1
  rw [aM_M_way]
  unfold bM_M_way_0
  rw [nlit32', zin_nI (by omega) (by omega), nI_clamp (by omega), show zg t 10 (32 * u + w) = aWy W w u from (aMz_of hf hM).2.2.2.2.2.2 w u hw hu]
theorem sim_wayOf (a1 a2 : Int32) : zSim aRel 106 195 [.inl a1, .inl a2] := by
  intro s t h
  obtain ⟨d, hd⟩ := zDp_e
  rw [hd]
  obtain ⟨W, hf, hX, hM, h4, h5, h6⟩ := id h
  have hn := hf.2.1
  have e1 : zg s 2 1 = nI (aWn W) := hX.2.1
  have e2 : zg t 0 10 = nI (aWn W) := (aMz_of hf hM).2.1
  by_cases h1 : zIn a1 (aWn W)
  · obtain ⟨w, hw, rfl⟩ := zIn_ex h1 (by omega)
    by_cases h2 : zIn a2 6
    · obtain ⟨u, hu, rfl⟩ := zIn_ex h2 (by omega)
      refine ⟨if nI u = 5 then aWy W w u + 100 else aWy W w u, s, t, ?_, ?_, h⟩
      · rw [aX_X_wayOf]
        unfold bX_X_wayOf_0
        rw [if_neg (nI_pos (by omega)), e1, if_neg (nI_ge hw (by omega)), if_neg (nI_pos (by omega)), if_pos (by rw [zlt, nI_toInt (by omega), show (6 : Int32).toInt = 6 by decide]; omega), sX_wayPart _ w u s hf hX hw hu, zcI_some]
        by_cases c : nI u = 5
        · rw [if_neg (fun e => e c), if_pos c]
        · rw [if_pos c, if_neg c]
      · rw [aM_M_wayOf]
        unfold bM_M_wayOf_0
        rw [e2, sM_lim _ _ t (by omega), zcI_some, zBp_t h1, if_neg (by decide), sM_in6, zcI_some, zBp_t h2, if_pos (by decide), sM_way _ w u t hf hM hw hu, zcI_some, Int32.add_zero]
        by_cases c : nI u = 5
        · rw [if_neg (fun e => e c), if_pos c]
        · rw [if_pos c, if_neg c]
    · refine ⟨-5, _, _, ?_, ?_, aRel_refuse 5 h⟩
      · rw [aX_X_wayOf]
        unfold bX_X_wayOf_0
        rw [if_neg (nI_pos (by omega)), e1, if_neg (nI_ge hw (by omega)), sX_refuse5, zcI_some]
        by_cases c : a2 < 0
        · rw [if_pos c]
        · have := (zIn_not (by omega) h2).resolve_left c
          rw [zle, nI_toInt (by omega)] at this
          rw [if_neg c, if_neg (by rw [zlt, show (6 : Int32).toInt = 6 by decide]; omega)]
      · simp only [aM_M_wayOf, bM_M_wayOf_0, e2, sM_lim _ _ t (show aWn W ≤ 2000 by omega), sM_in6, sM_no5, zcI_some, zBp_t h1, zBp_f h2, i10, if_true, if_false, not_true_eq_false, not_false_eq_true]
  · refine ⟨-5, _, _, ?_, ?_, aRel_refuse 5 h⟩
    · rw [aX_X_wayOf]
      unfold bX_X_wayOf_0
      rw [e1, sX_refuse5, zcI_some]
      by_cases c : a1 < 0
      · rw [if_pos c]
      · rw [if_neg c, if_pos ((zIn_not (by omega) h1).resolve_left c)]
    · simp only [aM_M_wayOf, bM_M_wayOf_0, e2, sM_lim _ _ t (show aWn W ≤ 2000 by omega), sM_no5, zcI_some, zBp_f h1, i10, if_true, if_false, not_true_eq_false, not_false_eq_true]
