/-! shelves: element, set -/
theorem l100 : (100 : Int32).toInt = 100 := by decide
theorem aSh_c {n : Nat} {s t : zS} {k : Nat} (hk : k < 8) (hn : n ≤ 16) (h : aSh n s t) : zg t 11 k = zg s 33 k ∧ ((zg s 33 k = -1) ∨ (∃ o, o < n ∧ zg s 33 k = nI o) ∨ ∃ r m, r < 4 ∧ m ≤ 160 ∧ zg s 33 k = nI (100 + r) ∧ zg s 34 k = nI m ∧ zg t 12 k = nI m ∧ ∀ i, i < m → zgl s 35 (k * 160 + i) = zgl t 13 (160 * k + i)) := by
  obtain ⟨h1, h2⟩ := h k hk
  exact ⟨h1.symm, h2⟩
theorem lt100_m1 : (-1 : Int32) < 100 := by decide
theorem lt100_o {o : Nat} (h : o < 16) : nI o < 100 := by
  rw [zlt, nI_toInt (by omega), l100]
  omega
theorem ge100_r {r : Nat} (h : r < 4) : ¬ nI (100 + r) < 100 := by
  rw [zlt, nI_toInt (by omega), l100]
  omega
theorem sX_holdsRow (d k : Nat) (s : zS) (hk : k < 8) : zcall zMs skX (d + 1) 48 [.inr (.inr 32), .inl (nI k)] s = some (some (.inl (zBp (¬ zg s 33 k < 100))), s) := by
  rw [aX_H_holdsRow]
  unfold bX_H_holdsRow_0
  rw [zin_nI hk (by omega), nI_clamp (by omega)]
  by_cases h : zg s 33 k < 100
  · rw [if_pos h, zBp_f (fun e => e h)]
    rfl
  · rw [if_neg h, zBp_t h]
    rfl
theorem sM_isRow (d k : Nat) (t : zS) (hk : k < 8) : zcall zMs skM (d + 1) 132 [.inr (.inr 0), .inl (nI k)] t = some (some (.inl (zBp (¬ zg t 11 k < 100))), t) := by
  rw [aM_M_isRow]
  unfold bM_M_isRow_0
  rw [zin_nI hk (by omega), nI_clamp (by omega)]
  by_cases h : zg t 11 k < 100
  · rw [if_pos h, zBp_f (fun e => e h)]
    rfl
  · rw [if_neg h, zBp_t h]
    rfl
theorem sX_hasEl (d k m : Nat) (x : Int32) (s : zS) (hk : k < 8) (hr : ¬ zg s 33 k < 100) (hm : zg s 34 k = nI m) (hm2 : m ≤ 160) : zcall zMs skX (d + 2) 53 [.inr (.inr 32), .inl (nI k), .inl x] s = some (some (.inl (zBp (zIn x m))), s) := by
  rw [aX_H_hasElement]
  unfold bX_H_hasElement_0
  rw [sX_isShelf, zcI_some, zBp_t (zIn_nI hk (by omega)), if_neg (by decide), sX_holdsRow _ k s hk, zcI_some, zBp_t hr, if_neg (by decide), zin_nI hk (by omega), nI_clamp (by omega), hm]
  exact sX_lim x (nI m) m (nI_toInt (by omega)) s
theorem sX_hasEl_no (d k : Nat) (x : Int32) (s : zS) (hk : k < 8) (hr : zg s 33 k < 100) : zcall zMs skX (d + 2) 53 [.inr (.inr 32), .inl (nI k), .inl x] s = some (some (.inl 0), s) := by
  rw [aX_H_hasElement]
  unfold bX_H_hasElement_0
  rw [sX_isShelf, zcI_some, zBp_t (zIn_nI hk (by omega)), if_neg (by decide), sX_holdsRow _ k s hk, zcI_some, zBp_f (fun e => e hr), if_pos rfl]
  rfl
theorem sX_hasEl_sh (d : Nat) (y x : Int32) (s : zS) (hk : ¬ zIn y 8) : zcall zMs skX (d + 2) 53 [.inr (.inr 32), .inl y, .inl x] s = some (some (.inl 0), s) := by
  rw [aX_H_hasElement]
  unfold bX_H_hasElement_0
  rw [sX_isShelf, zcI_some, zBp_f hk, if_pos rfl]
  rfl
theorem sX_longAt (d k i : Nat) (s : zS) (hk : k < 8) (hi : i < 160) : zcall zMs skX (d + 1) 57 [.inr (.inr 32), .inl (nI k), .inl (nI i)] s = some (some (.inr (.inl (zgl s 35 (k * 160 + i)))), s) := by
  rw [aX_H_longAt]
  unfold bX_H_longAt_0
  rw [nlit160, zin_nI (by omega) (by omega), nI_clamp (by omega)]
theorem sim_element (a1 a2 : Int32) : zSimJ aRel 85 137 [.inl a1, .inl a2] := by
  intro s t h
  obtain ⟨d, hd⟩ := zDp_e
  rw [hd]
  obtain ⟨W, hf, hX, hM, h4, h5, h6⟩ := id h
  have hn := hf.1
  by_cases h1 : zIn a1 8
  · obtain ⟨k, hk, rfl⟩ := zIn_ex h1 (by omega)
    obtain ⟨e1, hc⟩ := aSh_c hk hn h4
    have none' : zg s 33 k < 100 → ∃ (r : Int64) (s' t' : zS), zcall zMs skX (d + 1000) 85 [.inr (.inr 0), .inl (nI k), .inl a2] s = some (some (.inr (.inl r)), s') ∧ zcall zMs skM (d + 1000) 137 [.inr (.inr 0), .inl (nI k), .inl a2] t = some (some (.inr (.inl r)), t') ∧ aRel s' t' := by
      intro hlt
      refine ⟨0, s, t, ?_, ?_, h⟩
      · simp only [aX_X_element, bX_X_element_0, sX_hasEl_no _ k a2 s hk hlt, zcI_some, if_true]
      · simp only [aM_M_element, bM_M_element_0, sM_in8, sM_isRow _ k t hk, zcI_some, zBp_t h1, e1, zBp_f (fun e : ¬ zg s 33 k < 100 => e hlt), i10, if_false, if_true]
    rcases hc with hc | ⟨o, ho, hc⟩ | ⟨r, m, hr, hm, c1, c2, c3, c4⟩
    · exact none' (by rw [hc]; exact lt100_m1)
    · exact none' (by rw [hc]; exact lt100_o (by omega))
    · have hge : ¬ zg s 33 k < 100 := by rw [c1]; exact ge100_r hr
      by_cases h2 : zIn a2 m
      · obtain ⟨i, hi, rfl⟩ := zIn_ex h2 (by omega)
        refine ⟨zgl s 35 (k * 160 + i), s, t, ?_, ?_, h⟩
        · simp only [aX_X_element, bX_X_element_0, sX_hasEl _ k m (nI i) s hk hge c2 hm, sX_longAt _ k i s hk (show i < 160 by omega), zcI_some, zcJ_some, zBp_t h2, i10, if_false]
        · simp only [aM_M_element, bM_M_element_0, sM_in8, sM_isRow _ k t hk, zcI_some, zBp_t h1, e1, zBp_t hge, i10, if_false, zin_nI hk (show 8 < 2 ^ 31 by decide), nI_clamp (show k < 2 ^ 31 by omega), c3, sM_lim _ _ t (show m ≤ 2000 by omega), zBp_t h2, nlit160', zin_nI (show 160 * k + i < 1280 by omega) (show 1280 < 2 ^ 31 by decide), nI_clamp (show 160 * k + i < 2 ^ 31 by omega), c4 i hi]
      · refine ⟨0, s, t, ?_, ?_, h⟩
        · simp only [aX_X_element, bX_X_element_0, sX_hasEl _ k m a2 s hk hge c2 hm, zcI_some, zBp_f h2, if_true]
        · simp only [aM_M_element, bM_M_element_0, sM_in8, sM_isRow _ k t hk, zcI_some, zBp_t h1, e1, zBp_t hge, i10, if_false, zin_nI hk (show 8 < 2 ^ 31 by decide), nI_clamp (show k < 2 ^ 31 by omega), c3, sM_lim _ _ t (show m ≤ 2000 by omega), zBp_f h2, if_true]
  · refine ⟨0, s, t, ?_, ?_, h⟩
    · simp only [aX_X_element, bX_X_element_0, sX_hasEl_sh _ a1 a2 s h1, zcI_some, if_true]
    · simp only [aM_M_element, bM_M_element_0, sM_in8, zcI_some, zBp_f h1, if_true]
theorem aSh_setl {n : Nat} {s t : zS} {k i : Nat} {v : Int64} (hk : k < 8) (hi : i < 160) (h : aSh n s t) : aSh n (zsl s 35 (k * 160 + i) v) (zsl t 13 (160 * k + i) v) := by
  intro j hj
  obtain ⟨h1, h2⟩ := h j hj
  simp only [zg_zsl, zgl_zsl]
  refine ⟨h1, h2.imp id (Or.imp id ?_)⟩
  rintro ⟨r, m, hr, hm, c1, c2, c3, c4⟩
  refine ⟨r, m, hr, hm, c1, c2, c3, fun i' hi' => ?_⟩
  by_cases he : j = k ∧ i' = i
  · obtain ⟨rfl, rfl⟩ := he
    simp
  · simp only [if_true]
    rw [if_neg (by omega), if_neg (by omega)]
    exact c4 i' hi'
theorem aRel_setl {s t : zS} {k i : Nat} {v : Int64} (hk : k < 8) (hi : i < 160) (h : aRel s t) : aRel (zsl s 35 (k * 160 + i) v) (zsl t 13 (160 * k + i) v) := by
  obtain ⟨W, hf, hX, hM, h4, h5, h6⟩ := h
  exact ⟨W, hf, hX, hM, aSh_setl hk hi h4, h5, h6⟩
theorem sX_holdsObject (d k : Nat) (s : zS) (hk : k < 8) : zcall zMs skX (d + 1) 49 [.inr (.inr 32), .inl (nI k)] s = some (some (.inl (zBp (¬ zg s 33 k = -1 ∧ ¬ 100 ≤ zg s 33 k))), s) := by
  rw [aX_H_holdsObject]
  unfold bX_H_holdsObject_0
  rw [zin_nI hk (by omega), nI_clamp (by omega)]
  by_cases h : zg s 33 k = -1
  · rw [if_pos h, zBp_f (fun e => e.1 h)]
    rfl
  · rw [if_neg h, zin_nI hk (by omega)]
    by_cases h2 : 100 ≤ zg s 33 k
    · rw [if_pos h2, zBp_f (fun e => e.2 h2)]
      rfl
    · rw [if_neg h2, zBp_t ⟨h, h2⟩]
      rfl
/-- why a shelf holds no row -/
theorem sXM_noRow {n : Nat} {s t : zS} (d : Nat) (x : Int32) (hn : n ≤ 16) (h : aSh n s t) : ∃ v : Int32, zcall zMs skX (d + 2) 51 [.inr (.inr 32), .inl x] s = some (some (.inl v), s) ∧ zcall zMs skM (d + 2) 134 [.inr (.inr 0), .inl x] t = some (some (.inl v), t) ∧ ((v = -1 ∨ v = -2 ∨ v = -3) ∨ (v = 0 ∧ ∃ k r m, k < 8 ∧ x = nI k ∧ r < 4 ∧ m ≤ 160 ∧ zg s 33 k = nI (100 + r) ∧ zg t 11 k = nI (100 + r) ∧ zg s 34 k = nI m ∧ zg t 12 k = nI m)) := by
  by_cases h1 : zIn x 8
  · obtain ⟨k, hk, rfl⟩ := zIn_ex h1 (by omega)
    obtain ⟨e1, hc⟩ := aSh_c hk hn h
    rcases hc with hc | ⟨o, ho, hc⟩ | ⟨r, m, hr, hm, c1, c2, c3, c4⟩
    · refine ⟨-3, ?_, ?_, Or.inl (Or.inr (Or.inr rfl))⟩
      · simp only [aX_H_whyNoRow, bX_H_whyNoRow_0, sX_isShelf, sX_holdsObject _ k s hk, sX_holdsRow _ k s hk, zcI_some, zBp_t h1, zBp_f (fun e : ¬ zg s 33 k = -1 ∧ ¬ 100 ≤ zg s 33 k => e.1 hc), zBp_f (fun e : ¬ zg s 33 k < 100 => e (by rw [hc]; exact lt100_m1)), i10, if_true, if_false, not_false_eq_true]
      · simp only [aM_M_noRow, bM_M_noRow_0, sM_in8, zcI_some, zBp_t h1, i10, if_true, if_false, not_false_eq_true, zin_nI hk (show 8 < 2 ^ 31 by decide), nI_clamp (show k < 2 ^ 31 by omega), e1, hc, show (-1 : Int32) < 0 by decide, show ¬ (0 : Int32) ≤ -1 by decide]
    · have ho' : o < 16 := by omega
      have a0 : ¬ nI o < 0 := nI_pos (by omega)
      have a1 : nI o < 100 := lt100_o ho'
      have a2 : ¬ zg s 33 k = -1 ∧ ¬ 100 ≤ zg s 33 k := by
        rw [hc]
        refine ⟨nI_neg1 (by omega), ?_⟩
        rw [zle, nI_toInt (by omega), l100]
        omega
      refine ⟨-2, ?_, ?_, Or.inl (Or.inr (Or.inl rfl))⟩
      · simp only [aX_H_whyNoRow, bX_H_whyNoRow_0, sX_isShelf, sX_holdsObject _ k s hk, zcI_some, zBp_t h1, zBp_t a2, i10, if_true, if_false, not_false_eq_true]
      · simp only [aM_M_noRow, bM_M_noRow_0, sM_in8, sM_isRow _ k t hk, zcI_some, zBp_t h1, i10, if_true, if_false, not_false_eq_true, not_true_eq_false, zin_nI hk (show 8 < 2 ^ 31 by decide), nI_clamp (show k < 2 ^ 31 by omega), e1, hc, a0, zBp_f (fun e : ¬ nI o < 100 => e a1)]
    · have a0 : ¬ nI (100 + r) < 0 := nI_pos (by omega)
      have a0' : 0 ≤ nI (100 + r) := by
        rw [zle, nI_toInt (by omega), t0]
        omega
      have a1 : ¬ nI (100 + r) < 100 := ge100_r hr
      have a2 : ¬ (¬ zg s 33 k = -1 ∧ ¬ 100 ≤ zg s 33 k) := by
        rw [c1]
        rintro ⟨-, e⟩
        apply e
        rw [zle, nI_toInt (by omega), l100]
        omega
      have a3 : ¬ zg s 33 k < 100 := by rw [c1]; exact a1
      refine ⟨0, ?_, ?_, Or.inr ⟨rfl, k, r, m, hk, rfl, hr, hm, c1, e1.trans c1, c2, c3⟩⟩
      · simp only [aX_H_whyNoRow, bX_H_whyNoRow_0, sX_isShelf, sX_holdsObject _ k s hk, sX_holdsRow _ k s hk, zcI_some, zBp_t h1, zBp_f a2, zBp_t a3, i10, if_true, if_false, not_false_eq_true]
      · simp only [aM_M_noRow, bM_M_noRow_0, sM_in8, sM_isRow _ k t hk, zcI_some, zBp_t h1, i10, if_true, if_false, not_false_eq_true, not_true_eq_false, zin_nI hk (show 8 < 2 ^ 31 by decide), nI_clamp (show k < 2 ^ 31 by omega), e1, c1, a0, a0', zBp_t a1]
  · refine ⟨-1, ?_, ?_, Or.inl (Or.inl rfl)⟩
    · simp only [aX_H_whyNoRow, bX_H_whyNoRow_0, sX_isShelf, zcI_some, zBp_f h1, if_false, not_true_eq_false]
    · simp only [aM_M_noRow, bM_M_noRow_0, sM_in8, zcI_some, zBp_f h1, if_false, not_true_eq_false]
theorem r100 {r : Nat} (h : r < 4) : nI (100 + r) - (100 : Int32) = nI r := by
  apply Int32.toInt_inj.mp
  rw [Int32.toInt_sub, nI_toInt (by omega), nI_toInt (by omega), l100]
  rw [Int.bmod_eq_of_le (by omega) (by omega)]
  omega
theorem q00 : nI 0 = (0 : Int32) := by decide
theorem q10 : ¬ nI 1 = (0 : Int32) := by decide
theorem q20 : ¬ nI 2 = (0 : Int32) := by decide
theorem q30 : ¬ nI 3 = (0 : Int32) := by decide
theorem q11 : nI 1 = (0 : Int32) + 1 := by decide
theorem q21 : ¬ nI 2 = (0 : Int32) + 1 := by decide
theorem q31 : ¬ nI 3 = (0 : Int32) + 1 := by decide
theorem q22 : nI 2 = (0 : Int32) + 1 + 1 := by decide
theorem q32 : ¬ nI 3 = (0 : Int32) + 1 + 1 := by decide
theorem p11 : nI 1 = (1 : Int32) := by decide
theorem p21 : ¬ nI 2 = (1 : Int32) := by decide
theorem p31 : ¬ nI 3 = (1 : Int32) := by decide
theorem p22 : nI 2 = (2 : Int32) := by decide
theorem p32 : ¬ nI 3 = (2 : Int32) := by decide
/-- what an element of a sort keeps of a number -/
def aNar (r : Nat) (v : Int64) : Int64 := if r = 0 then Int32.toInt64 (Int8.toInt32 (Int32.toInt8 (Int64.toInt32 v))) else if r = 1 then Int32.toInt64 (Int16.toInt32 (Int32.toInt16 (Int64.toInt32 v))) else if r = 2 then Int32.toInt64 (Int64.toInt32 v) else v
theorem sX_put (d k i r : Nat) (v : Int64) (s : zS) (hk : k < 8) (hi : i < 160) (hr : r < 4) (c1 : zg s 33 k = nI (100 + r)) : zcall zMs skX (d + 1) 55 [.inr (.inr 32), .inl (nI k), .inl (nI i), .inr (.inl v)] s = some (none, zsl s 35 (k * 160 + i) (aNar r v)) := by
  rw [aX_H_put]
  unfold bX_H_put_0
  simp only [zin_nI hk (show 8 < 2 ^ 31 by decide), nI_clamp (show k < 2 ^ 31 by omega), c1, r100 hr, nlit160, zin_nI (show k * 160 + i < 1280 by omega) (show 1280 < 2 ^ 31 by decide), nI_clamp (show k * 160 + i < 2 ^ 31 by omega)]
  have hc : r = 0 ∨ r = 1 ∨ r = 2 ∨ r = 3 := by omega
  rcases hc with rfl | rfl | rfl | rfl
  · rw [if_pos q00]
    rfl
  · rw [if_neg q10, if_pos q11]
    rfl
  · rw [if_neg q20, if_neg q21, if_pos q22]
    rfl
  · rw [if_neg q30, if_neg q31, if_neg q32]
    rfl
theorem n0le : ∀ v : Int32, v = -1 ∨ v = -2 ∨ v = -3 → ¬ 0 ≤ v := by
  intro v hv
  rcases hv with rfl | rfl | rfl <;> decide
theorem nne0 : ∀ v : Int32, v = -1 ∨ v = -2 ∨ v = -3 → ¬ v = 0 := by
  intro v hv
  rcases hv with rfl | rfl | rfl <;> decide
theorem aNar0 (v : Int64) : aNar 0 v = Int32.toInt64 (Int8.toInt32 (Int32.toInt8 (Int64.toInt32 v))) := rfl
theorem aNar1 (v : Int64) : aNar 1 v = Int32.toInt64 (Int16.toInt32 (Int32.toInt16 (Int64.toInt32 v))) := rfl
theorem aNar2 (v : Int64) : aNar 2 v = Int32.toInt64 (Int64.toInt32 v) := rfl
theorem aNar3 (v : Int64) : aNar 3 v = v := rfl
theorem zDp_8 : ∃ e, zDp = e + 8 := by
  obtain ⟨d, hd⟩ := zDp_e
  exact ⟨d + 992, by omega⟩
theorem sim_set (a1 a2 : Int32) (a3 : Int64) : zSim aRel 83 135 [.inl a1, .inl a2, .inr (.inl a3)] := by
  intro s t h
  obtain ⟨d, hd⟩ := zDp_8
  rw [hd]
  obtain ⟨W, hf, hX, hM, h4, h5, h6⟩ := id h
  have hn := hf.1
  have v0 := sXM_noRow (d + 5) a1 hn h4
  obtain ⟨v, v1, v2, hv⟩ := v0
  rcases hv with hv | ⟨rfl, k, r, m, hk, rfl, hr, hm, c1, e1, c2, c3⟩
  · rcases hv with rfl | rfl | rfl
    · refine ⟨-1, _, _, ?_, ?_, aRel_refuse 1 h⟩
      · simp only [aX_X_set, bX_X_set_0, v1, zcI_some, if_neg (nne0 (-1) (by simp)), sX_refuse1]
      · simp only [aM_M_set, bM_M_set_0, v2, zcI_some, if_neg (n0le (-1) (by simp)), sM_no1]
    · refine ⟨-2, _, _, ?_, ?_, aRel_refuse 2 h⟩
      · simp only [aX_X_set, bX_X_set_0, v1, zcI_some, if_neg (nne0 (-2) (by simp)), sX_refuse2]
      · simp only [aM_M_set, bM_M_set_0, v2, zcI_some, if_neg (n0le (-2) (by simp)), sM_no2]
    · refine ⟨-3, _, _, ?_, ?_, aRel_refuse 3 h⟩
      · simp only [aX_X_set, bX_X_set_0, v1, zcI_some, if_neg (nne0 (-3) (by simp)), sX_refuse3]
      · simp only [aM_M_set, bM_M_set_0, v2, zcI_some, if_neg (n0le (-3) (by simp)), sM_no3]
  · have hge : ¬ zg s 33 k < 100 := by rw [c1]; exact ge100_r hr
    by_cases h2 : zIn a2 m
    · obtain ⟨i, hi, rfl⟩ := zIn_ex h2 (by omega)
      refine ⟨1, _, _, ?_, ?_, aRel_setl (v := aNar r a3) hk (show i < 160 by omega) h⟩
      · rw [aX_X_set]
        unfold bX_X_set_0
        rw [v1, zcI_some, if_pos rfl, sX_hasEl _ k m (nI i) s hk hge c2 hm, zcI_some, zBp_t h2, if_pos (by decide), sX_put _ k i r a3 s hk (by omega) hr c1, zcV_some]
      · rw [aM_M_set]
        unfold bM_M_set_0
        rw [v2, zcI_some, if_pos (by decide), zin_nI hk (by omega), nI_clamp (show k < 2 ^ 31 by omega), c3, sM_lim _ _ t (by omega), zcI_some, zBp_t h2, if_pos (by decide), zin_nI hk (by omega), e1, r100 hr, nlit160']
        dsimp only
        have hc : r = 0 ∨ r = 1 ∨ r = 2 ∨ r = 3 := by omega
        rcases hc with rfl | rfl | rfl | rfl
        · rw [if_neg (fun e => e q00), zin_nI (show 160 * k + i < 1280 by omega) (by omega), nI_clamp (show 160 * k + i < 2 ^ 31 by omega), aNar0]
        · rw [if_pos q10, if_neg (fun e => e p11), zin_nI (show 160 * k + i < 1280 by omega) (by omega), nI_clamp (show 160 * k + i < 2 ^ 31 by omega), aNar1]
        · rw [if_pos q20, if_pos p21, if_neg (fun e => e p22), zin_nI (show 160 * k + i < 1280 by omega) (by omega), nI_clamp (show 160 * k + i < 2 ^ 31 by omega), aNar2]
        · rw [if_pos q30, if_pos p31, if_pos p32, zin_nI (show 160 * k + i < 1280 by omega) (by omega), nI_clamp (show 160 * k + i < 2 ^ 31 by omega), aNar3]
    · refine ⟨-5, _, _, ?_, ?_, aRel_refuse 5 h⟩
      · simp only [aX_X_set, bX_X_set_0, v1, sX_hasEl _ k m a2 s hk hge c2 hm, sX_refuse5, zcI_some, zBp_f h2, if_true, if_false, not_true_eq_false]
      · simp only [aM_M_set, bM_M_set_0, v2, zcI_some, if_pos (show (0 : Int32) ≤ 0 by decide), zin_nI hk (show 8 < 2 ^ 31 by decide), nI_clamp (show k < 2 ^ 31 by omega), c3, sM_lim _ _ t (show m ≤ 2000 by omega), sM_no5, zBp_f h2, if_true, if_false, not_true_eq_false]
