/-! objectOf -/
def aPar (W : aW) (o i : Nat) : Int32 := match (aP W o)[i]? with
  | some p => nI p
  | none => -1
theorem nlit3 (o i : Nat) : nI o * (3 : Int32) + nI i = nI (o * 3 + i) := by
  rw [show (3 : Int32) = nI 3 from rfl, pk_mul, nI_add]
theorem n3sub (o i : Nat) : (3 : Int32) * nI o + nI (i + 2) - 2 = nI (3 * o + i) := by
  rw [show nI (i + 2) = nI i + 2 from (nI_add i 2).symm, ← Int32.add_assoc, Int32.add_sub_cancel, show (3 : Int32) = nI 3 from rfl, pk_mul, nI_add]
theorem sX_parentAt {W : aW} (d o i : Nat) (s : zS) (hf : aWf W) (hX : aX 2 s W) (ho : o < aN W) (hi : i < 3) : zcall zMs skX (d + 1) 63 [.inr (.inr 2), .inl (nI o), .inl (nI i)] s = some (some (.inl (aPar W o i)), s) := by
  have h16 := aWf_lt hf ho
  have hl := (hf.2.2.1 o ho).2.1
  obtain ⟨-, x2, x3, -⟩ := hX.2.2.2.1 o ho
  have x2' : zg s 4 o = nI (aP W o).length := x2
  rw [aX_W_parentAt]
  unfold bX_W_parentAt_0 aPar
  rw [zin_nI h16 (by omega), nI_clamp (by omega), x2']
  by_cases h : i < (aP W o).length
  · have hg : (aP W o)[i]? = some (aP W o)[i] := List.getElem?_eq_getElem h
    rw [if_neg (nI_ge h (by omega)), nlit3, zin_nI (by omega) (by omega), nI_clamp (by omega), show zg s 5 (o * 3 + i) = nI (aP W o)[i] from x3 i _ hg, hg]
  · rw [if_pos (nI_le (by omega) (by omega)), List.getElem?_eq_none (by omega)]
theorem sim_objectOf (a1 a2 : Int32) : zSim aRel 96 171 [.inl a1, .inl a2] := by
  intro s t h
  obtain ⟨d, hd⟩ := zDp_8
  rw [hd]
  obtain ⟨W, hf, hX, hM, -, -, -⟩ := id h
  have hn := hf.1
  rw [aX_X_objectOf, aM_M_objectOf]
  unfold bX_X_objectOf_0 bM_M_objectOf_0
  rw [sX_hasObject (n := aN W) _ a1 s hX.1 hf.1, sM_isOne (n := aN W) _ a1 t (aM_n hM) hf.1, zcI_some, zcI_some]
  by_cases h1 : zIn a1 (aN W)
  · obtain ⟨o, ho, rfl⟩ := zIn_ex h1 (by omega)
    have h16 := aWf_lt hf ho
    obtain ⟨x1, x2, -, x4, -⟩ := hX.2.2.2.1 o ho
    obtain ⟨y1, y2, y3, y4, -⟩ := (aMz_of hf hM).2.2.2.1 o ho
    have x1' : zg s 3 o = nI (aK W o) := x1
    have x2' : zg s 4 o = nI (aP W o).length := x2
    have x4' : zg s 6 o = nI (aO W o).length := x4
    rw [zBp_t h1, if_pos o1, if_pos o1, sM_within, zcI_some]
    by_cases c0 : a2 = (0 : Int32)
    · subst c0
      refine ⟨nI (aK W o), s, t, ?_, ?_, h⟩
      · rw [if_pos (show (0 : Int32) = (0 : Int32) from rfl), zin_nI h16 (by omega), nI_clamp (show o < 2 ^ 31 by omega), x1']
      · rw [zBp_f (by decide), if_pos (show (0 : Int32) = 0 from rfl), if_pos (show (0 : Int32) = (0 : Int32) from rfl), zin_nI h16 (by omega), nI_clamp (show o < 2 ^ 31 by omega), y1]
    by_cases c1 : a2 = ((0 : Int32) + 1)
    · subst c1
      refine ⟨nI (aP W o).length, s, t, ?_, ?_, h⟩
      · rw [if_neg (show ¬ ((0 : Int32) + 1) = (0 : Int32) by decide), if_pos (show ((0 : Int32) + 1) = ((0 : Int32) + 1) from rfl), zin_nI h16 (by omega), nI_clamp (show o < 2 ^ 31 by omega), x2']
      · rw [zBp_f (by decide), if_pos (show (0 : Int32) = 0 from rfl), if_neg (show ¬ ((0 : Int32) + 1) = (0 : Int32) by decide), if_pos (show ((0 : Int32) + 1) = ((0 : Int32) + 1) from rfl), zin_nI h16 (by omega), nI_clamp (show o < 2 ^ 31 by omega), y2]
    by_cases c2 : a2 = (((0 : Int32) + 1) + 1)
    · subst c2
      refine ⟨aPar W o 0, s, t, ?_, ?_, h⟩
      · rw [if_neg (show ¬ (((0 : Int32) + 1) + 1) = (0 : Int32) by decide), if_neg (show ¬ (((0 : Int32) + 1) + 1) = ((0 : Int32) + 1) by decide), if_pos (show (((0 : Int32) + 1) + 1) = (((0 : Int32) + 1) + 1) from rfl), show (((0 : Int32) + 1) + 1) - 2 = nI 0 by decide, sX_parentAt _ o 0 s hf hX ho (by omega), zcI_some]
      · rw [zBp_t (by decide), if_neg o1, show (((0 : Int32) + 1) + 1) = nI (0 + 2) by decide, n3sub o 0, zin_nI (by omega) (by omega), nI_clamp (by omega), y3 0 (by omega)]
        rfl
    by_cases c3 : a2 = ((((0 : Int32) + 1) + 1) + 1)
    · subst c3
      refine ⟨aPar W o 1, s, t, ?_, ?_, h⟩
      · rw [if_neg (show ¬ ((((0 : Int32) + 1) + 1) + 1) = (0 : Int32) by decide), if_neg (show ¬ ((((0 : Int32) + 1) + 1) + 1) = ((0 : Int32) + 1) by decide), if_neg (show ¬ ((((0 : Int32) + 1) + 1) + 1) = (((0 : Int32) + 1) + 1) by decide), if_pos (show ((((0 : Int32) + 1) + 1) + 1) = ((((0 : Int32) + 1) + 1) + 1) from rfl), show ((((0 : Int32) + 1) + 1) + 1) - 2 = nI 1 by decide, sX_parentAt _ o 1 s hf hX ho (by omega), zcI_some]
      · rw [zBp_t (by decide), if_neg o1, show ((((0 : Int32) + 1) + 1) + 1) = nI (1 + 2) by decide, n3sub o 1, zin_nI (by omega) (by omega), nI_clamp (by omega), y3 1 (by omega)]
        rfl
    by_cases c4 : a2 = (((((0 : Int32) + 1) + 1) + 1) + 1)
    · subst c4
      refine ⟨aPar W o 2, s, t, ?_, ?_, h⟩
      · rw [if_neg (show ¬ (((((0 : Int32) + 1) + 1) + 1) + 1) = (0 : Int32) by decide), if_neg (show ¬ (((((0 : Int32) + 1) + 1) + 1) + 1) = ((0 : Int32) + 1) by decide), if_neg (show ¬ (((((0 : Int32) + 1) + 1) + 1) + 1) = (((0 : Int32) + 1) + 1) by decide), if_neg (show ¬ (((((0 : Int32) + 1) + 1) + 1) + 1) = ((((0 : Int32) + 1) + 1) + 1) by decide), if_pos (show (((((0 : Int32) + 1) + 1) + 1) + 1) = (((((0 : Int32) + 1) + 1) + 1) + 1) from rfl), show (((((0 : Int32) + 1) + 1) + 1) + 1) - 2 = nI 2 by decide, sX_parentAt _ o 2 s hf hX ho (by omega), zcI_some]
      · rw [zBp_t (by decide), if_neg o1, show (((((0 : Int32) + 1) + 1) + 1) + 1) = nI (2 + 2) by decide, n3sub o 2, zin_nI (by omega) (by omega), nI_clamp (by omega), y3 2 (by omega)]
        rfl
    by_cases c5 : a2 = ((((((0 : Int32) + 1) + 1) + 1) + 1) + 1)
    · subst c5
      refine ⟨aB (aHas W o) 16, s, t, ?_, ?_, h⟩
      · rw [if_neg (show ¬ ((((((0 : Int32) + 1) + 1) + 1) + 1) + 1) = (0 : Int32) by decide), if_neg (show ¬ ((((((0 : Int32) + 1) + 1) + 1) + 1) + 1) = ((0 : Int32) + 1) by decide), if_neg (show ¬ ((((((0 : Int32) + 1) + 1) + 1) + 1) + 1) = (((0 : Int32) + 1) + 1) by decide), if_neg (show ¬ ((((((0 : Int32) + 1) + 1) + 1) + 1) + 1) = ((((0 : Int32) + 1) + 1) + 1) by decide), if_neg (show ¬ ((((((0 : Int32) + 1) + 1) + 1) + 1) + 1) = (((((0 : Int32) + 1) + 1) + 1) + 1) by decide), if_pos (show ((((((0 : Int32) + 1) + 1) + 1) + 1) + 1) = ((((((0 : Int32) + 1) + 1) + 1) + 1) + 1) from rfl), sX_ownSlots _ o s hf hX ho, zcI_some]
      · rw [zBp_f (by decide), if_pos (show (0 : Int32) = 0 from rfl), if_neg (show ¬ ((((((0 : Int32) + 1) + 1) + 1) + 1) + 1) = (0 : Int32) by decide), if_neg (show ¬ ((((((0 : Int32) + 1) + 1) + 1) + 1) + 1) = ((0 : Int32) + 1) by decide), if_neg (show ¬ ((((((0 : Int32) + 1) + 1) + 1) + 1) + 1) = (((0 : Int32) + 1) + 1) by decide), if_neg (show ¬ ((((((0 : Int32) + 1) + 1) + 1) + 1) + 1) = ((((0 : Int32) + 1) + 1) + 1) by decide), if_neg (show ¬ ((((((0 : Int32) + 1) + 1) + 1) + 1) + 1) = (((((0 : Int32) + 1) + 1) + 1) + 1) by decide), if_pos (show ((((((0 : Int32) + 1) + 1) + 1) + 1) + 1) = ((((((0 : Int32) + 1) + 1) + 1) + 1) + 1) from rfl), zin_nI h16 (by omega), nI_clamp (show o < 2 ^ 31 by omega), aM_has hf hM ho]
    by_cases c6 : a2 = (((((((0 : Int32) + 1) + 1) + 1) + 1) + 1) + 1)
    · subst c6
      refine ⟨aAll W (aO W o) 0, s, t, ?_, ?_, h⟩
      · rw [if_neg (show ¬ (((((((0 : Int32) + 1) + 1) + 1) + 1) + 1) + 1) = (0 : Int32) by decide), if_neg (show ¬ (((((((0 : Int32) + 1) + 1) + 1) + 1) + 1) + 1) = ((0 : Int32) + 1) by decide), if_neg (show ¬ (((((((0 : Int32) + 1) + 1) + 1) + 1) + 1) + 1) = (((0 : Int32) + 1) + 1) by decide), if_neg (show ¬ (((((((0 : Int32) + 1) + 1) + 1) + 1) + 1) + 1) = ((((0 : Int32) + 1) + 1) + 1) by decide), if_neg (show ¬ (((((((0 : Int32) + 1) + 1) + 1) + 1) + 1) + 1) = (((((0 : Int32) + 1) + 1) + 1) + 1) by decide), if_neg (show ¬ (((((((0 : Int32) + 1) + 1) + 1) + 1) + 1) + 1) = ((((((0 : Int32) + 1) + 1) + 1) + 1) + 1) by decide), if_pos (show (((((((0 : Int32) + 1) + 1) + 1) + 1) + 1) + 1) = (((((((0 : Int32) + 1) + 1) + 1) + 1) + 1) + 1) from rfl), sX_foundSlots _ o s hf hX ho, zcI_some]
      · rw [zBp_f (by decide), if_pos (show (0 : Int32) = 0 from rfl), if_neg (show ¬ (((((((0 : Int32) + 1) + 1) + 1) + 1) + 1) + 1) = (0 : Int32) by decide), if_neg (show ¬ (((((((0 : Int32) + 1) + 1) + 1) + 1) + 1) + 1) = ((0 : Int32) + 1) by decide), if_neg (show ¬ (((((((0 : Int32) + 1) + 1) + 1) + 1) + 1) + 1) = (((0 : Int32) + 1) + 1) by decide), if_neg (show ¬ (((((((0 : Int32) + 1) + 1) + 1) + 1) + 1) + 1) = ((((0 : Int32) + 1) + 1) + 1) by decide), if_neg (show ¬ (((((((0 : Int32) + 1) + 1) + 1) + 1) + 1) + 1) = (((((0 : Int32) + 1) + 1) + 1) + 1) by decide), if_neg (show ¬ (((((((0 : Int32) + 1) + 1) + 1) + 1) + 1) + 1) = ((((((0 : Int32) + 1) + 1) + 1) + 1) + 1) by decide), if_pos (show (((((((0 : Int32) + 1) + 1) + 1) + 1) + 1) + 1) = (((((((0 : Int32) + 1) + 1) + 1) + 1) + 1) + 1) from rfl), sM_allFound _ o t hf hM ho, zcI_some]
    by_cases c7 : a2 = ((((((((0 : Int32) + 1) + 1) + 1) + 1) + 1) + 1) + 1)
    · subst c7
      refine ⟨nI (aO W o).length, s, t, ?_, ?_, h⟩
      · rw [if_neg (show ¬ ((((((((0 : Int32) + 1) + 1) + 1) + 1) + 1) + 1) + 1) = (0 : Int32) by decide), if_neg (show ¬ ((((((((0 : Int32) + 1) + 1) + 1) + 1) + 1) + 1) + 1) = ((0 : Int32) + 1) by decide), if_neg (show ¬ ((((((((0 : Int32) + 1) + 1) + 1) + 1) + 1) + 1) + 1) = (((0 : Int32) + 1) + 1) by decide), if_neg (show ¬ ((((((((0 : Int32) + 1) + 1) + 1) + 1) + 1) + 1) + 1) = ((((0 : Int32) + 1) + 1) + 1) by decide), if_neg (show ¬ ((((((((0 : Int32) + 1) + 1) + 1) + 1) + 1) + 1) + 1) = (((((0 : Int32) + 1) + 1) + 1) + 1) by decide), if_neg (show ¬ ((((((((0 : Int32) + 1) + 1) + 1) + 1) + 1) + 1) + 1) = ((((((0 : Int32) + 1) + 1) + 1) + 1) + 1) by decide), if_neg (show ¬ ((((((((0 : Int32) + 1) + 1) + 1) + 1) + 1) + 1) + 1) = (((((((0 : Int32) + 1) + 1) + 1) + 1) + 1) + 1) by decide), if_pos (show ((((((((0 : Int32) + 1) + 1) + 1) + 1) + 1) + 1) + 1) = ((((((((0 : Int32) + 1) + 1) + 1) + 1) + 1) + 1) + 1) from rfl), zin_nI h16 (by omega), nI_clamp (show o < 2 ^ 31 by omega), x4']
      · rw [zBp_f (by decide), if_pos (show (0 : Int32) = 0 from rfl), if_neg (show ¬ ((((((((0 : Int32) + 1) + 1) + 1) + 1) + 1) + 1) + 1) = (0 : Int32) by decide), if_neg (show ¬ ((((((((0 : Int32) + 1) + 1) + 1) + 1) + 1) + 1) + 1) = ((0 : Int32) + 1) by decide), if_neg (show ¬ ((((((((0 : Int32) + 1) + 1) + 1) + 1) + 1) + 1) + 1) = (((0 : Int32) + 1) + 1) by decide), if_neg (show ¬ ((((((((0 : Int32) + 1) + 1) + 1) + 1) + 1) + 1) + 1) = ((((0 : Int32) + 1) + 1) + 1) by decide), if_neg (show ¬ ((((((((0 : Int32) + 1) + 1) + 1) + 1) + 1) + 1) + 1) = (((((0 : Int32) + 1) + 1) + 1) + 1) by decide), if_neg (show ¬ ((((((((0 : Int32) + 1) + 1) + 1) + 1) + 1) + 1) + 1) = ((((((0 : Int32) + 1) + 1) + 1) + 1) + 1) by decide), if_neg (show ¬ ((((((((0 : Int32) + 1) + 1) + 1) + 1) + 1) + 1) + 1) = (((((((0 : Int32) + 1) + 1) + 1) + 1) + 1) + 1) by decide), if_pos (show ((((((((0 : Int32) + 1) + 1) + 1) + 1) + 1) + 1) + 1) = ((((((((0 : Int32) + 1) + 1) + 1) + 1) + 1) + 1) + 1) from rfl), zin_nI h16 (by omega), nI_clamp (show o < 2 ^ 31 by omega), y4]
    by_cases c8 : a2 = (((((((((0 : Int32) + 1) + 1) + 1) + 1) + 1) + 1) + 1) + 1)
    · subst c8
      refine ⟨aB (aFam W o) (aN W), s, t, ?_, ?_, h⟩
      · rw [if_neg (show ¬ (((((((((0 : Int32) + 1) + 1) + 1) + 1) + 1) + 1) + 1) + 1) = (0 : Int32) by decide), if_neg (show ¬ (((((((((0 : Int32) + 1) + 1) + 1) + 1) + 1) + 1) + 1) + 1) = ((0 : Int32) + 1) by decide), if_neg (show ¬ (((((((((0 : Int32) + 1) + 1) + 1) + 1) + 1) + 1) + 1) + 1) = (((0 : Int32) + 1) + 1) by decide), if_neg (show ¬ (((((((((0 : Int32) + 1) + 1) + 1) + 1) + 1) + 1) + 1) + 1) = ((((0 : Int32) + 1) + 1) + 1) by decide), if_neg (show ¬ (((((((((0 : Int32) + 1) + 1) + 1) + 1) + 1) + 1) + 1) + 1) = (((((0 : Int32) + 1) + 1) + 1) + 1) by decide), if_neg (show ¬ (((((((((0 : Int32) + 1) + 1) + 1) + 1) + 1) + 1) + 1) + 1) = ((((((0 : Int32) + 1) + 1) + 1) + 1) + 1) by decide), if_neg (show ¬ (((((((((0 : Int32) + 1) + 1) + 1) + 1) + 1) + 1) + 1) + 1) = (((((((0 : Int32) + 1) + 1) + 1) + 1) + 1) + 1) by decide), if_neg (show ¬ (((((((((0 : Int32) + 1) + 1) + 1) + 1) + 1) + 1) + 1) + 1) = ((((((((0 : Int32) + 1) + 1) + 1) + 1) + 1) + 1) + 1) by decide), if_pos (show (((((((((0 : Int32) + 1) + 1) + 1) + 1) + 1) + 1) + 1) + 1) = (((((((((0 : Int32) + 1) + 1) + 1) + 1) + 1) + 1) + 1) + 1) from rfl), sX_family _ o s hf hX h16, zcI_some]
      · rw [zBp_f (by decide), if_pos (show (0 : Int32) = 0 from rfl), if_neg (show ¬ (((((((((0 : Int32) + 1) + 1) + 1) + 1) + 1) + 1) + 1) + 1) = (0 : Int32) by decide), if_neg (show ¬ (((((((((0 : Int32) + 1) + 1) + 1) + 1) + 1) + 1) + 1) + 1) = ((0 : Int32) + 1) by decide), if_neg (show ¬ (((((((((0 : Int32) + 1) + 1) + 1) + 1) + 1) + 1) + 1) + 1) = (((0 : Int32) + 1) + 1) by decide), if_neg (show ¬ (((((((((0 : Int32) + 1) + 1) + 1) + 1) + 1) + 1) + 1) + 1) = ((((0 : Int32) + 1) + 1) + 1) by decide), if_neg (show ¬ (((((((((0 : Int32) + 1) + 1) + 1) + 1) + 1) + 1) + 1) + 1) = (((((0 : Int32) + 1) + 1) + 1) + 1) by decide), if_neg (show ¬ (((((((((0 : Int32) + 1) + 1) + 1) + 1) + 1) + 1) + 1) + 1) = ((((((0 : Int32) + 1) + 1) + 1) + 1) + 1) by decide), if_neg (show ¬ (((((((((0 : Int32) + 1) + 1) + 1) + 1) + 1) + 1) + 1) + 1) = (((((((0 : Int32) + 1) + 1) + 1) + 1) + 1) + 1) by decide), if_neg (show ¬ (((((((((0 : Int32) + 1) + 1) + 1) + 1) + 1) + 1) + 1) + 1) = ((((((((0 : Int32) + 1) + 1) + 1) + 1) + 1) + 1) + 1) by decide), if_pos (show (((((((((0 : Int32) + 1) + 1) + 1) + 1) + 1) + 1) + 1) + 1) = (((((((((0 : Int32) + 1) + 1) + 1) + 1) + 1) + 1) + 1) + 1) from rfl), sM_family _ o t hf hM h16, zcI_some]
    have hw : ¬ ((2 : Int32).toInt ≤ a2.toInt ∧ a2.toInt ≤ (4 : Int32).toInt) := by
      rw [show (2 : Int32).toInt = 2 by decide, show (4 : Int32).toInt = 4 by decide]
      intro e
      have hc : a2.toInt = 2 ∨ a2.toInt = 3 ∨ a2.toInt = 4 := by omega
      rcases hc with e | e | e
      · exact c2 (Int32.toInt_inj.mp (e.trans (show (2 : Int) = (((0 : Int32) + 1) + 1).toInt by decide)))
      · exact c3 (Int32.toInt_inj.mp (e.trans (show (3 : Int) = ((((0 : Int32) + 1) + 1) + 1).toInt by decide)))
      · exact c4 (Int32.toInt_inj.mp (e.trans (show (4 : Int) = (((((0 : Int32) + 1) + 1) + 1) + 1).toInt by decide)))
    refine ⟨-5, _, _, ?_, ?_, aRel_refuse 5 h⟩
    · rw [if_neg c0, if_neg c1, if_neg c2, if_neg c3, if_neg c4, if_neg c5, if_neg c6, if_neg c7, if_neg c8, sX_refuse5, zcI_some]
    · rw [zBp_f hw, if_pos (show (0 : Int32) = 0 from rfl), if_neg c0, if_neg c1, if_neg c2, if_neg c3, if_neg c4, if_neg c5, if_neg c6, if_neg c7, if_neg c8, sM_no5, zcI_some]
  · rw [zBp_f h1, if_neg z0, if_neg z0, sX_refuse5, sM_no5, zcI_some, zcI_some]
    exact ⟨_, _, _, rfl, rfl, aRel_refuse 5 h⟩
