/-! order, where, show, element -/
theorem sM_lim {n : Nat} (d : Nat) (x : Int32) (t : zS) (hn : n ≤ 2000) : zcall zMs skM (d + 1) 128 [.inl x, .inl 0, .inl (nI n - 1)] t = some (some (.inl (zBp (zIn x n))), t) := by
  have e : (nI n - 1).toInt = (n : Int) - 1 := by
    rw [Int32.toInt_sub, nI_toInt (by omega), show (1 : Int32).toInt = 1 by decide]
    apply Int.bmod_eq_of_le <;> omega
  rw [sM_within, zB_iff (q := zIn x n) (by unfold zIn; rw [t0, e]; omega)]
theorem zIn_not {x : Int32} {n : Nat} (hn : n < 2 ^ 31) (h : ¬ zIn x n) : x < 0 ∨ nI n ≤ x := by
  unfold zIn at h
  rw [zlt, zle, t0, nI_toInt (by omega)]
  omega
theorem sim_order (a1 a2 : Int32) : zSim aRel 97 172 [.inl a1, .inl a2] := by
  intro s t h
  obtain ⟨d, hd⟩ := zDp_e
  rw [hd]
  obtain ⟨W, hf, hX, hM, -, -, -⟩ := id h
  have hn := hf.1
  by_cases h1 : zIn a1 (aN W)
  · obtain ⟨o, ho, rfl⟩ := zIn_ex h1 (by omega)
    have h16 := aWf_lt hf ho
    have hlen := aWf_len hf ho
    by_cases h2 : zIn a2 (aO W o).length
    · obtain ⟨i, hi, rfl⟩ := zIn_ex h2 (by omega)
      have hg : (aO W o)[i]? = some (aO W o)[i] := List.getElem?_eq_getElem hi
      refine ⟨nI (aO W o)[i], s, t, ?_, ?_, h⟩
      · rw [aX_X_order]
        unfold bX_X_order_0
        rw [sX_hasObject (n := aN W) _ _ s hX.1 hf.1, zcI_some, zBp_t h1, if_pos (by decide), if_neg (nI_pos (by omega)), zin_nI h16 (by omega), nI_clamp (by omega), aX_osz hX ho, if_neg (nI_ge hi (by omega)), sX_orderAt _ o i s h16 (by omega), zcI_some, aX_ord hX ho hg]
      · rw [aM_M_order]
        unfold bM_M_order_0
        rw [sM_isOne (n := aN W) _ _ t (aM_n hM) hf.1, zcI_some, zBp_t h1, if_pos (by decide), zin_nI h16 (by omega), nI_clamp (by omega), aM_osz hf hM ho, sM_lim _ _ t (by omega), zcI_some, zBp_t h2, if_neg (by decide), nlit16', zin_nI (by omega) (by omega), nI_clamp (by omega), aM_ord hf hM ho hg]
    · refine ⟨-1, s, t, ?_, ?_, h⟩
      · rw [aX_X_order]
        unfold bX_X_order_0
        rw [sX_hasObject (n := aN W) _ _ s hX.1 hf.1, zcI_some, zBp_t h1, if_pos (by decide)]
        by_cases h4 : a2 < 0
        · rw [if_pos h4]
        · rw [if_neg h4, zin_nI h16 (by omega), nI_clamp (by omega), aX_osz hX ho, if_pos ((zIn_not (by omega) h2).resolve_left h4)]
      · rw [aM_M_order]
        unfold bM_M_order_0
        rw [sM_isOne (n := aN W) _ _ t (aM_n hM) hf.1, zcI_some, zBp_t h1, if_pos (by decide), zin_nI h16 (by omega), nI_clamp (by omega), aM_osz hf hM ho, sM_lim _ _ t (by omega), zcI_some, zBp_f h2, if_pos rfl]
  · refine ⟨-1 - 10, _, _, ?_, ?_, aRel_refuse 1 h⟩
    · rw [aX_X_order]
      unfold bX_X_order_0
      rw [sX_hasObject (n := aN W) _ _ s hX.1 hf.1, zcI_some, zBp_f h1, if_neg (by decide), sX_ten1, zcI_some]
    · rw [aM_M_order]
      unfold bM_M_order_0
      rw [sM_isOne (n := aN W) _ _ t (aM_n hM) hf.1, zcI_some, zBp_f h1, if_neg (by decide), sM_ten1, zcI_some]
theorem sX_foundIn {W : aW} (d o i : Nat) (s : zS) (hf : aWf W) (hX : aX 2 s W) (ho : o < aN W) (hi : i < 16) : (∃ r, zcall zMs skX (d + 3) 73 [.inr (.inr 2), .inl (nI o), .inl (nI i)] s = some (some (.inl r), s) ∧ ((r = -1 ∧ aFst (fun x => aHas W x i) (aO W o) 0 = -1) ∨ ∃ j x, (aO W o)[j]? = some x ∧ aFst (fun x => aHas W x i) (aO W o) 0 = nI j ∧ r = nI x)) := by
  have h16 := aWf_lt hf ho
  have hlen := aWf_len hf ho
  rw [aX_W_foundIn]
  unfold bX_W_foundIn_0
  have h0 := sX_placeFrom d o i 0 s hf hX ho hi (Nat.zero_le _)
  rw [nI_0] at h0
  rw [h0, zcI_some, List.drop_zero]
  rcases aFst_cases (fun x => aHas W x i) (aO W o) 0 with ⟨h1, -⟩ | ⟨j, x, h1, -, h3, -⟩
  · rw [h1, if_neg (by decide)]
    exact ⟨-1, rfl, Or.inl ⟨rfl, rfl⟩⟩
  · have hj := (List.getElem?_eq_some_iff.mp h1).1
    rw [Nat.zero_add] at h3
    rw [h3, if_pos (nI_neg1 (by omega)), sX_orderAt _ o j s h16 (by omega), zcI_some, aX_ord hX ho h1]
    exact ⟨nI x, rfl, Or.inr ⟨j, x, h1, rfl, rfl⟩⟩
theorem sim_where (a1 a2 : Int32) : zSim aRel 99 174 [.inl a1, .inl a2] := by
  intro s t h
  obtain ⟨d, hd⟩ := zDp_e
  rw [hd]
  obtain ⟨W, hf, hX, hM, -, -, -⟩ := id h
  have hn := hf.1
  by_cases h1 : zIn a1 (aN W)
  · by_cases h2 : zIn a2 16
    · obtain ⟨o, ho, rfl⟩ := zIn_ex h1 (by omega)
      obtain ⟨i, hi, rfl⟩ := zIn_ex h2 (by omega)
      have h16 := aWf_lt hf ho
      have hlen := aWf_len hf ho
      have h0 := sM_found (d + 997) o i 0 t hf hM ho hi (Nat.zero_le _)
      rw [nI_0, List.drop_zero] at h0
      obtain ⟨r, hr, hc⟩ := sX_foundIn (d + 996) o i s hf hX ho hi
      refine ⟨r, s, t, ?_, ?_, h⟩
      · rw [aX_X_where]
        unfold bX_X_where_0
        rw [sX_hasObject (n := aN W) _ _ s hX.1 hf.1, zcI_some, zBp_t h1, if_neg (by decide), sX_isSlot, zcI_some, zBp_t h2, if_pos (by decide), hr, zcI_some]
      · rw [aM_M_where]
        unfold bM_M_where_0
        rw [sM_isOne (n := aN W) _ _ t (aM_n hM) hf.1, zcI_some, zBp_t h1, if_neg (by decide), sM_isSlot, zcI_some, zBp_t h2, if_pos (by decide), h0, zcI_some]
        rcases hc with ⟨e1, e2⟩ | ⟨j, x, g1, g2, g3⟩
        · rw [e2, e1, if_neg (by decide)]
        · have hj := (List.getElem?_eq_some_iff.mp g1).1
          rw [g2, if_pos (nI_neg1 (by omega)), nlit16', zin_nI (by omega) (by omega), nI_clamp (by omega), aM_ord hf hM ho g1, g3]
    · refine ⟨-1 - 10, _, _, ?_, ?_, aRel_refuse 1 h⟩
      · rw [aX_X_where]
        unfold bX_X_where_0
        rw [sX_hasObject (n := aN W) _ _ s hX.1 hf.1, zcI_some, zBp_t h1, if_neg (by decide), sX_isSlot, zcI_some, zBp_f h2, if_neg (by decide), sX_ten1, zcI_some]
      · rw [aM_M_where]
        unfold bM_M_where_0
        rw [sM_isOne (n := aN W) _ _ t (aM_n hM) hf.1, zcI_some, zBp_t h1, if_neg (by decide), sM_isSlot, zcI_some, zBp_f h2, if_neg (by decide), sM_ten1, zcI_some]
  · refine ⟨-1 - 10, _, _, ?_, ?_, aRel_refuse 1 h⟩
    · rw [aX_X_where]
      unfold bX_X_where_0
      rw [sX_hasObject (n := aN W) _ _ s hX.1 hf.1, zcI_some, zBp_f h1, if_pos rfl, sX_ten1, zcI_some]
    · rw [aM_M_where]
      unfold bM_M_where_0
      rw [sM_isOne (n := aN W) _ _ t (aM_n hM) hf.1, zcI_some, zBp_f h1, if_pos rfl, sM_ten1, zcI_some]
