/-! says -/
theorem sX_ofKind {W : aW} (d o c : Nat) (s : zS) (hf : aWf W) (hX : aX 2 s W) (ho : o < aN W) (hc : c < 4) : zcall zMs skX (d + 1) 66 [.inr (.inr 2), .inl (nI o), .inl (nI c)] s = some (some (.inl (zBp (c = 0 ∨ aK W o = c ∨ (c = 1 ∧ aK W o = 3)))), s) := by
  have h16 := aWf_lt hf ho
  have hk : zg s 3 o = nI (aK W o) := (hX.2.2.2.1 o ho).1
  have hk4 := (hf.2.2.1 o ho).1
  rw [aX_W_isOfKind]
  unfold bX_W_isOfKind_0
  by_cases c0 : c = 0
  · rw [if_pos (show nI c = 0 by rw [c0]; exact nI_0), zBp_t (Or.inl c0), zbo_1]
  · rw [if_neg (show ¬ nI c = 0 from nI_ne0 (by omega) (by omega)), zin_nI h16 (by decide), nI_clamp (by omega), hk]
    by_cases h1 : aK W o = c
    · rw [if_pos (show nI (aK W o) = nI c by rw [h1]), zBp_t (Or.inr (Or.inl h1)), zbo_1]
    · rw [if_neg (show ¬ nI (aK W o) = nI c from fun h => h1 ((nI_i3 (by omega) c (by omega)).mp h))]
      by_cases c1 : c = 1
      · rw [if_neg (show ¬ ¬ nI c = (1 : Int32) from fun h => h (by rw [c1]; decide)), zin_nI h16 (by decide)]
        by_cases h3 : aK W o = 3
        · rw [if_neg (show ¬ ¬ nI (aK W o) = (3 : Int32) from fun h => h (by rw [h3]; decide)), zBp_t (Or.inr (Or.inr ⟨c1, h3⟩)), zbo_1]
        · rw [if_pos (show ¬ nI (aK W o) = (3 : Int32) from fun h => h3 ((nI_i3 (by omega) 3 (by omega)).mp h)), zBp_f (by omega), zbo_0]
      · rw [if_pos (show ¬ nI c = (1 : Int32) from fun h => c1 ((nI_i3 (by omega) 1 (by omega)).mp h)), zBp_f (by omega), zbo_0]
def sayV (W : aW) (c o : Nat) : Int32 := if c = 0 then nI (aO W o).length else if c = 1 then zBc (aB (aHas W o) 16) else if c = 2 then nI (aP W o).length else aB (aHas W o) 16
theorem sX_sayV {W : aW} (d c o : Nat) (s : zS) (hf : aWf W) (hX : aX 2 s W) (ho : o < aN W) (hc : c < 4) : (if nI c = (0 : Int32) then (zin (nI o) 16 <| some (some (.inl (zg s 6 (Int32.toNatClampNeg (nI o)))), s) : zR) else (if nI c = ((0 : Int32) + 1) then (zcI (zcall zMs skX (d + 2) 74 [.inr (.inr 2), .inl (nI o)] s) fun r114 s113 => zcI (zcall zMs skX (d + 2) 215 [.inl r114] s113) fun r116 s115 => some (some (.inl r116), s115)) else (if nI c = (((0 : Int32) + 1) + 1) then (zin (nI o) 16 <| some (some (.inl (zg s 4 (Int32.toNatClampNeg (nI o)))), s)) else (zcI (zcall zMs skX (d + 2) 74 [.inr (.inr 2), .inl (nI o)] s) fun r118 s117 => some (some (.inl r118), s117))))) = some (some (.inl (sayV W c o)), s) := by
  have h16 := aWf_lt hf ho
  have hp : zg s 4 o = nI (aP W o).length := (hX.2.2.2.1 o ho).2.1
  rw [zin_nI h16 (by decide), zin_nI h16 (by decide), nI_clamp (by omega), aX_osz hX ho, hp, sX_ownSlots d o s hf hX ho]
  have hc4 : c = 0 ∨ c = 1 ∨ c = 2 ∨ c = 3 := by omega
  rcases hc4 with rfl | rfl | rfl | rfl
  · rw [if_pos q00]; rfl
  · rw [if_neg q10, if_pos q11, zcI_some, sX_bitCount (d + 1), zcI_some]; rfl
  · rw [if_neg q20, if_neg q21, if_pos q22]; rfl
  · rw [if_neg q30, if_neg q31, if_neg q32, zcI_some]; rfl
theorem sM_says46 {W : aW} (d c o n : Nat) (t : zS) (hf : aWf W) (hM : aMz t W) (ho : o < aN W) (hc : c < 4) : zexec skM (zcall zMs skM (d + 1)) zT_M_says 1 (n + 1) 46 [some (.inr (.inr 0)), none, some (.inl (nI c)), some (.inl (nI o))] [] t = some (some (.inl (sayV W c o)), t) := by
  have h16 := aWf_lt hf ho
  obtain ⟨-, hp, -, hl, -⟩ := hM.2.2.2.1 o ho
  have hh : zg t 6 o = aB (aHas W o) 16 := (hM.2.2.2.2.1 o ho).1
  rw [hM_M_says_46]
  unfold bM_M_says_46
  rw [if_pos (nI_pos' (by omega)), zin_nI h16 (by decide), zin_nI h16 (by decide), zin_nI h16 (by decide), zin_nI h16 (by decide), nI_clamp (by omega), hp, hl, hh]
  have hc4 : c = 0 ∨ c = 1 ∨ c = 2 ∨ c = 3 := by omega
  rcases hc4 with rfl | rfl | rfl | rfl
  · rw [if_pos q00]; rfl
  · rw [if_neg q10, if_pos q11, sM_bitCount d, zcI_some]; rfl
  · rw [if_neg q20, if_neg q21, if_pos q22]; rfl
  · rw [if_neg q30, if_neg q31, if_neg q32]; rfl
/-- the three ways in which a shelf can be -/
theorem aSh_3 {n : Nat} {s t : zS} {k : Nat} (hk : k < 8) (hn : n ≤ 16) (h : aSh n s t) : zg t 11 k = zg s 33 k ∧ ((zg s 33 k = -1 ∧ (¬ ¬ zg s 33 k < 100) ∧ ¬ (¬ zg s 33 k = -1 ∧ ¬ 100 ≤ zg s 33 k)) ∨ (∃ o, o < n ∧ zg s 33 k = nI o ∧ (¬ ¬ zg s 33 k < 100) ∧ (¬ zg s 33 k = -1 ∧ ¬ 100 ≤ zg s 33 k)) ∨ ∃ r m, r < 4 ∧ m ≤ 160 ∧ zg s 33 k = nI (100 + r) ∧ (¬ zg s 33 k < 100) ∧ ¬ (¬ zg s 33 k = -1 ∧ ¬ 100 ≤ zg s 33 k) ∧ zg s 34 k = nI m ∧ zg t 12 k = nI m ∧ ∀ i, i < m → zgl s 35 (k * 160 + i) = zgl t 13 (160 * k + i)) := by
  obtain ⟨e1, hc⟩ := aSh_c hk hn h
  refine ⟨e1, ?_⟩
  rcases hc with hc | ⟨o, ho, hc⟩ | ⟨r, m, hr, hm, c1, c2, c3, c4⟩
  · exact Or.inl ⟨hc, fun e => e (by rw [hc]; exact lt100_m1), fun e => e.1 hc⟩
  · refine Or.inr (Or.inl ⟨o, ho, hc, fun e => e (by rw [hc]; exact lt100_o (by omega)), ?_, ?_⟩)
    · rw [hc]; exact nI_neg1 (by omega)
    · rw [hc, zle, nI_toInt (by omega), l100]
      omega
  · refine Or.inr (Or.inr ⟨r, m, hr, hm, c1, by rw [c1]; exact ge100_r hr, ?_, c2, c3, c4⟩)
    rw [c1]
    rintro ⟨-, e⟩
    apply e
    rw [zle, nI_toInt (by omega), l100]
    omega

theorem sim_says (a1 a2 : Int32) : zSim aRel 88 140 [.inl a1, .inl a2] := by
  intro s t h
  obtain ⟨d, hd⟩ := zDp_8
  rw [hd]
  obtain ⟨W, hf, hX, hM, h4, -, -⟩ := id h
  have hn := hf.1
  have hMz := aMz_of hf hM
  by_cases h1 : zIn a1 8
  · by_cases h2 : zIn a2 4
    · obtain ⟨k, hk, rfl⟩ := zIn_ex h1 (by omega)
      obtain ⟨c, hc, rfl⟩ := zIn_ex h2 (by omega)
      obtain ⟨e1, hs⟩ := aSh_3 hk hn h4
      rcases hs with ⟨s1, s2, s3⟩ | ⟨o, ho, s1, s2, s3⟩ | ⟨r, m, hr, hm, s1, s2, s3, -, -, -⟩
      · refine ⟨-3, _, _, ?_, ?_, aRel_refuse 3 h⟩
        · rw [aX_X_says]
          unfold bX_X_says_0
          rw [sX_isShelf, zcI_some, zBp_t h1, if_neg o1, sX_isKind, zcI_some, zBp_t h2, if_pos o1, zin_nI hk (by decide), nI_clamp (by omega), sX_holdsRow _ k s hk, zcI_some, zBp_f s2, if_neg z0, sX_holdsObject _ k s hk, zcI_some, zBp_f s3, if_pos (show (0 : Int32) = 0 from rfl), s1, if_neg (show ¬ ¬ (-1 : Int32) = -1 by decide), sX_refuse3, zcI_some]
        · rw [aM_M_says]
          unfold bM_M_says_0
          rw [sM_in8, zcI_some, zBp_t h1, if_neg o1, sM_in4, zcI_some, zBp_t h2, if_pos o1, zin_nI hk (by decide), nI_clamp (by omega), e1, s1, if_pos (show (-1 : Int32) < 0 by decide), hM_M_says_46 _ 19998]
          unfold bM_M_says_46
          rw [if_neg (show ¬ (0 : Int32) ≤ -1 by decide), sM_no3, zcI_some]
      · have s2t : ¬ ¬ zg t 11 k < 100 := by rw [e1]; exact s2
        have h16 : o < 16 := by omega
        have hk2 : zg t 1 o = nI (aK W o) := (hMz.2.2.2.1 o ho).1
        have hk4 := (hf.2.2.1 o ho).1
        by_cases hkk : c = 0 ∨ aK W o = c ∨ (c = 1 ∧ aK W o = 3)
        · refine ⟨sayV W c o, s, t, ?_, ?_, h⟩
          · rw [aX_X_says]
            unfold bX_X_says_0
            rw [sX_isShelf, zcI_some, zBp_t h1, if_neg o1, sX_isKind, zcI_some, zBp_t h2, if_pos o1, zin_nI hk (by decide), nI_clamp (show k < 2 ^ 31 by omega), sX_holdsRow _ k s hk, zcI_some, zBp_f s2, if_neg z0, sX_holdsObject _ k s hk, zcI_some, zBp_t s3, if_neg o1, s1, sX_ofKind _ o c s hf hX ho hc, zcI_some, zBp_t hkk, if_pos o1, if_pos (nI_neg1 (by omega))]
            exact sX_sayV (d + 5) c o s hf hX ho hc
          · rw [aM_M_says]
            unfold bM_M_says_0
            rw [sM_in8, zcI_some, zBp_t h1, if_neg o1, sM_in4, zcI_some, zBp_t h2, if_pos o1, zin_nI hk (by decide), nI_clamp (show k < 2 ^ 31 by omega), sM_isRow _ k t hk, zcI_some, zBp_f s2t, if_neg z0, e1, s1, if_neg (nI_pos (by omega)), sM_says46 (W := W) (d + 6) c o 19998 t hf hMz ho hc]
            by_cases c0 : c = 0
            · rw [if_pos (show nI c = 0 by rw [c0]; exact nI_0)]
            · rw [if_neg (show ¬ nI c = 0 from nI_ne0 (by omega) (by omega)), zin_nI h16 (by decide), nI_clamp (show o < 2 ^ 31 by omega), hk2]
              by_cases h5 : aK W o = c
              · rw [if_pos (show nI (aK W o) = nI c by rw [h5])]
              · have c1 : c = 1 := by omega
                have h3 : aK W o = 3 := by omega
                rw [if_neg (show ¬ nI (aK W o) = nI c from fun h => h5 ((nI_i3 (by omega) c (by omega)).mp h)), if_neg (show ¬ ¬ nI c = (1 : Int32) from fun h => h (by rw [c1]; decide)), zin_nI h16 (by decide), if_pos (show nI (aK W o) = (3 : Int32) by rw [h3]; decide)]
        · refine ⟨-2, _, _, ?_, ?_, aRel_refuse 2 h⟩
          · rw [aX_X_says]
            unfold bX_X_says_0
            rw [sX_isShelf, zcI_some, zBp_t h1, if_neg o1, sX_isKind, zcI_some, zBp_t h2, if_pos o1, zin_nI hk (by decide), nI_clamp (show k < 2 ^ 31 by omega), sX_holdsRow _ k s hk, zcI_some, zBp_f s2, if_neg z0, sX_holdsObject _ k s hk, zcI_some, zBp_t s3, if_neg o1, s1, sX_ofKind _ o c s hf hX ho hc, zcI_some, zBp_f hkk, if_neg z0, sX_refuse2, zcI_some]
          · rw [aM_M_says]
            unfold bM_M_says_0
            rw [sM_in8, zcI_some, zBp_t h1, if_neg o1, sM_in4, zcI_some, zBp_t h2, if_pos o1, zin_nI hk (by decide), nI_clamp (show k < 2 ^ 31 by omega), sM_isRow _ k t hk, zcI_some, zBp_f s2t, if_neg z0, e1, s1, if_neg (nI_pos (by omega))]
            rw [if_neg (show ¬ nI c = 0 from nI_ne0 (by omega) (by omega)), zin_nI h16 (by decide), nI_clamp (show o < 2 ^ 31 by omega), hk2, if_neg (show ¬ nI (aK W o) = nI c from fun h => by have := (nI_i3 (by omega) c (by omega)).mp h; omega)]
            by_cases c1 : c = 1
            · rw [if_neg (show ¬ ¬ nI c = (1 : Int32) from fun h => h (by rw [c1]; decide)), zin_nI h16 (by decide), if_neg (show ¬ nI (aK W o) = (3 : Int32) from fun h => by have := (nI_i3 (by omega) 3 (by omega)).mp h; omega), sM_no2, zcI_some]
            · rw [if_pos (show ¬ nI c = (1 : Int32) from fun h => c1 ((nI_i3 (by omega) 1 (by omega)).mp h)), sM_no2, zcI_some]
      · have s2t : ¬ zg t 11 k < 100 := by rw [e1]; exact s2
        refine ⟨-2, _, _, ?_, ?_, aRel_refuse 2 h⟩
        · rw [aX_X_says]
          unfold bX_X_says_0
          rw [sX_isShelf, zcI_some, zBp_t h1, if_neg o1, sX_isKind, zcI_some, zBp_t h2, if_pos o1, zin_nI hk (by decide), nI_clamp (by omega), sX_holdsRow _ k s hk, zcI_some, zBp_t s2, if_pos o1, sX_refuse2, zcI_some]
        · rw [aM_M_says]
          unfold bM_M_says_0
          rw [sM_in8, zcI_some, zBp_t h1, if_neg o1, sM_in4, zcI_some, zBp_t h2, if_pos o1, zin_nI hk (by decide), nI_clamp (by omega), sM_isRow _ k t hk, zcI_some, zBp_t s2t, if_pos o1, e1, s1, if_neg (nI_pos (by omega)), sM_no2, zcI_some]
    · refine ⟨-1, _, _, ?_, ?_, aRel_refuse 1 h⟩
      · rw [aX_X_says]
        unfold bX_X_says_0
        rw [sX_isShelf, zcI_some, zBp_t h1, if_neg o1, sX_isKind, zcI_some, zBp_f h2, if_neg z0, sX_refuse1, zcI_some]
      · rw [aM_M_says]
        unfold bM_M_says_0
        rw [sM_in8, zcI_some, zBp_t h1, if_neg o1, sM_in4, zcI_some, zBp_f h2, if_neg z0, sM_no1, zcI_some]
  · refine ⟨-1, _, _, ?_, ?_, aRel_refuse 1 h⟩
    · rw [aX_X_says]
      unfold bX_X_says_0
      rw [sX_isShelf, zcI_some, zBp_f h1, if_pos (show (0 : Int32) = 0 from rfl), sX_refuse1, zcI_some]
    · rw [aM_M_says]
      unfold bM_M_says_0
      rw [sM_in8, zcI_some, zBp_f h1, if_pos (show (0 : Int32) = 0 from rfl), sM_no1, zcI_some]
