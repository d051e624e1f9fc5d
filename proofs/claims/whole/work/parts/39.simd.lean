/-! value, method, remove -/
theorem aRel_fr {s t s' t' : zS} {n : Nat} (hs : ∀ p, p < 2 ∨ 12 ≤ p → ∀ i, zg s' p i = zg s p i) (hsl : ∀ p i, zgl s' p i = zgl s p i) (ht : ∀ p, 11 ≤ p → ∀ i, zg t' p i = zg t p i) (ht0 : ∀ i, 16 ≤ i → zg t' 0 i = zg t 0 i) (htl : ∀ p i, zgl t' p i = zgl t p i) (h4 : aSh n s t) (h5 : aRest s t) (h6 : aImg s t) : aSh n s' t' ∧ aRest s' t' ∧ aImg s' t' := by
  refine ⟨?_, ?_, ?_⟩
  · intro k hk
    have := h4 k hk
    simp only [hs 33 (by decide), hs 34 (by decide), ht 11 (by decide), ht 12 (by decide), hsl, htl]
    exact this
  · unfold aRest at h5 ⊢
    simp only [hs 44 (by decide), hs 0 (by decide), hs 1 (by decide), hs 17 (by decide), ht 15 (by decide), ht 21 (by decide), ht0 16 (by decide), ht0 30 (by decide), ht0 31 (by decide), ht0 32 (by decide)]
    exact h5
  · unfold aImg aX at h6 ⊢
    simp only [hs 0 (by decide), ht0 39 (by decide), hs 22 (by decide), hs (22 + 1) (by decide), hs (22 + 2) (by decide), hs (22 + 3) (by decide), hs (22 + 4) (by decide), hs (22 + 5) (by decide), hs (22 + 6) (by decide), hs (22 + 7) (by decide), hs (22 + 8) (by decide), hs (22 + 9) (by decide), ht 24 (by decide)]
    exact h6
theorem nIe1 : nI 1 = 1 := by decide
theorem nIe2 : nI 2 = 2 := by decide
theorem sM_hold0 {W : aW} (d o i : Nat) (v : Int32) (t : zS) (hf : aWf W) (hM : aM (mFl t) W) (ho : o < aN W) (hi : i < 16) : zcall zMs skM (d + 1) 162 [.inr (.inr 0), .inl (nI o), .inl (nI i), .inl 0, .inl 0, .inl v] t = some (none, mput t o i (aB (fun b => if b = i then true else decide ((aS W o b).1 ≠ 0)) 16) (aB (fun b => if b = i then decide ((1 : Nat) = 2) else decide ((aS W o b).1 = 2)) 16) 0 v) := by
  have h16 := aWf_lt hf ho
  obtain ⟨q1, q2⟩ := (aMz_of hf hM).2.2.2.2.1 o ho
  rw [aM_M_holds2]
  unfold bM_M_holds2_0
  simp only [if_true, nlit16', zin_nI h16 (show 16 < 2 ^ 31 by decide), nI_clamp (show o < 2 ^ 31 by omega), zin_nI (show 16 * o + i < 256 by omega) (show 256 < 2 ^ 31 by decide), nI_clamp (show 16 * o + i < 2 ^ 31 by omega), q1, q2, aB_set _ i hi, aB_clr _ i hi]
  rfl
theorem sM_hold1 {W : aW} (d o i : Nat) (f v : Int32) (t : zS) (hf : aWf W) (hM : aM (mFl t) W) (ho : o < aN W) (hi : i < 16) : zcall zMs skM (d + 1) 162 [.inr (.inr 0), .inl (nI o), .inl (nI i), .inl 1, .inl f, .inl v] t = some (none, mput t o i (aB (fun b => if b = i then true else decide ((aS W o b).1 ≠ 0)) 16) (aB (fun b => if b = i then decide ((2 : Nat) = 2) else decide ((aS W o b).1 = 2)) 16) f v) := by
  have h16 := aWf_lt hf ho
  obtain ⟨q1, q2⟩ := (aMz_of hf hM).2.2.2.2.1 o ho
  rw [aM_M_holds2]
  unfold bM_M_holds2_0
  simp only [i10, if_false, nlit16', zin_nI h16 (show 16 < 2 ^ 31 by decide), nI_clamp (show o < 2 ^ 31 by omega), zin_nI (show 16 * o + i < 256 by omega) (show 256 < 2 ^ 31 by decide), nI_clamp (show 16 * o + i < 2 ^ 31 by omega), q1, q2, aB_set _ i hi]
  rfl
def mdrop (t : zS) (o : Nat) (h m : Int32) : zS := zs (zs t 6 o h) 7 o m
theorem sM_drops {W : aW} (d o i : Nat) (t : zS) (hf : aWf W) (hM : aM (mFl t) W) (ho : o < aN W) (hi : i < 16) : zcall zMs skM (d + 1) 165 [.inr (.inr 0), .inl (nI o), .inl (nI i)] t = some (none, mdrop t o (aB (fun b => if b = i then false else decide ((aS W o b).1 ≠ 0)) 16) (aB (fun b => if b = i then false else decide ((aS W o b).1 = 2)) 16)) := by
  have h16 := aWf_lt hf ho
  obtain ⟨q1, q2⟩ := (aMz_of hf hM).2.2.2.2.1 o ho
  rw [aM_M_drops]
  unfold bM_M_drops_0
  simp only [zin_nI h16 (show 16 < 2 ^ 31 by decide), nI_clamp (show o < 2 ^ 31 by omega), q1, q2, aB_clr _ i hi]
  rfl
theorem aMz_drop {t : zS} {W : aW} {o i : Nat} (hM : aMz t W) (hi : i < 16) : aMz (mdrop t o (aB (fun b => if b = i then false else decide ((aS W o b).1 ≠ 0)) 16) (aB (fun b => if b = i then false else decide ((aS W o b).1 = 2)) 16)) (aSet W o i (0, 0, 0)) := by
  obtain ⟨m1, m2, m3, m4, m5, m6, m7⟩ := hM
  have e : ∀ a b, aS (aSet W o i (0, 0, 0)) a b = if a = o ∧ b = i then (0, 0, 0) else aS W a b := fun a b => rfl
  refine ⟨m1, m2, m3, m4, ?_, ?_, m7⟩
  · intro a ha
    obtain ⟨q1, q2⟩ := m5 a ha
    simp only [mdrop, zg_zs, e]
    by_cases he : a = o
    · subst he
      simp only [true_and, if_true, show (6 : Nat) = 7 ↔ False by decide, if_false]
      constructor
      · congr 1
        funext b
        by_cases hb : b = i
        · simp only [hb, if_true]
          rfl
        · simp only [hb, if_false]
      · congr 1
        funext b
        by_cases hb : b = i
        · simp only [hb, if_true]
          rfl
        · simp only [hb, if_false]
    · simp only [he, false_and, if_false, if_true, show (6 : Nat) = 7 ↔ False by decide, show (7 : Nat) = 6 ↔ False by decide]
      exact ⟨q1, q2⟩
  · intro a b ha hb hz
    rw [e] at hz ⊢
    by_cases he : a = o ∧ b = i
    · rw [if_pos he] at hz
      exact absurd rfl hz
    · rw [if_neg he] at hz ⊢
      exact m6 a b ha hb hz
theorem aRel_put {s t : zS} {W : aW} {o i g : Nat} {f v : Int32} (hf : aWf W) (hX : aX 2 s W) (hM : aM (mFl t) W) (h4 : aSh (aN W) s t) (h5 : aRest s t) (h6 : aImg s t) (hi : i < 16) (hg : (g = 1 ∧ f = 0) ∨ (g = 2 ∧ ∃ k, k < 10 ∧ f = nI k)) : aRel (xput s o i (nI g) f v) (mput t o i (aB (fun b => if b = i then true else decide ((aS W o b).1 ≠ 0)) 16) (aB (fun b => if b = i then decide (g = 2) else decide ((aS W o b).1 = 2)) 16) f v) := by
  have hf' : aWf (aSet W o i (g, f, v)) := aWf_set hf (by rcases hg with ⟨rfl, -⟩ | ⟨rfl, -⟩ <;> simp) (fun h => by
    rcases hg with ⟨rfl, -⟩ | ⟨rfl, h2⟩
    · simp at h
    · exact h2) (fun h => by
    rcases hg with ⟨rfl, h2⟩ | ⟨rfl, -⟩
    · exact h2
    · simp at h)
  refine ⟨aSet W o i (g, f, v), hf', aX_put hX hi, aM_ofz hf' (aMz_put (aMz_of hf hM) (by rcases hg with ⟨rfl, -⟩ | ⟨rfl, -⟩ <;> simp) hi), ?_⟩
  refine aRel_fr ?_ (fun p i => rfl) ?_ ?_ (fun p i => rfl) h4 h5 h6
  · intro p hp j
    simp only [xput, zg_zs, show ¬ p = 8 by omega, show ¬ p = 9 by omega, show ¬ p = 10 by omega, if_false]
  · intro p hp j
    simp only [mput, zg_zs, show ¬ p = 6 by omega, show ¬ p = 7 by omega, show ¬ p = 8 by omega, show ¬ p = 9 by omega, if_false]
  · intro j hj
    rfl
theorem aRel_drop {s t : zS} {W : aW} {o i : Nat} (hf : aWf W) (hX : aX 2 s W) (hM : aM (mFl t) W) (h4 : aSh (aN W) s t) (h5 : aRest s t) (h6 : aImg s t) (hi : i < 16) : aRel (zs s 8 (o * 16 + i) 0) (mdrop t o (aB (fun b => if b = i then false else decide ((aS W o b).1 ≠ 0)) 16) (aB (fun b => if b = i then false else decide ((aS W o b).1 = 2)) 16)) := by
  have hf' : aWf (aSet W o i (0, 0, 0)) := aWf_set hf (by decide) (fun h => absurd h (by decide)) (fun h => absurd h (by decide))
  refine ⟨aSet W o i (0, 0, 0), hf', aX_drop hX hi, aM_ofz hf' (aMz_drop (aMz_of hf hM) hi), ?_⟩
  refine aRel_fr ?_ (fun p i => rfl) ?_ ?_ (fun p i => rfl) h4 h5 h6
  · intro p hp j
    simp only [zg_zs, show ¬ p = 8 by omega, if_false]
  · intro p hp j
    simp only [mdrop, zg_zs, show ¬ p = 6 by omega, show ¬ p = 7 by omega, if_false]
  · intro j hj
    rfl
theorem aM_hbit {t : zS} {W : aW} {o i : Nat} (hf : aWf W) (hM : aM (mFl t) W) (ho : o < aN W) (hi : i < 16) : (((zg t 6 o) >>> (nI i &&& 31)) &&& (1 : Int32)) = zBp (aHas W o i = true) := by
  rw [aM_has hf hM ho, sh_bit _ i hi, aB_bit _ 16 (Nat.le_refl _) i (by omega)]
  cases h : aHas W o i with
  | true =>
    rw [zBp_t rfl]
    simp [hi]
  | false =>
    rw [zBp_f (by simp)]
    simp
theorem aXM_kind {s t : zS} {W : aW} {o : Nat} (hf : aWf W) (hX : aX 2 s W) (hM : aM (mFl t) W) (ho : o < aN W) : zg t 1 o = zg s 3 o :=
  ((aMz_of hf hM).2.2.2.1 o ho).1.trans (hX.2.2.2.1 o ho).1.symm
theorem sim_value (a1 a2 a3 : Int32) : zSim aRel 93 163 [.inl a1, .inl a2, .inl a3] := by
  intro s t h
  obtain ⟨d, hd⟩ := zDp_e
  rw [hd]
  obtain ⟨W, hf, hX, hM, h4, h5, h6⟩ := id h
  have hn := hf.1
  by_cases h1 : zIn a1 (aN W)
  · by_cases h2 : zIn a2 16
    · obtain ⟨o, ho, rfl⟩ := zIn_ex h1 (by omega)
      obtain ⟨i, hi, rfl⟩ := zIn_ex h2 (by omega)
      have h16 := aWf_lt hf ho
      by_cases h3 : zg s 3 o = 3
      · refine ⟨-6, _, _, ?_, ?_, aRel_refuse 6 h⟩
        · simp only [aX_X_value, bX_X_value_0, sX_hasObject (n := aN W) _ _ s hX.1 hf.1, sX_isSlot, sX_refuse6, zcI_some, zBp_t h1, zBp_t h2, i10, if_true, if_false, not_true_eq_false, not_false_eq_true, zin_nI h16 (show 16 < 2 ^ 31 by decide), nI_clamp (show o < 2 ^ 31 by omega), h3]
        · simp only [aM_M_value, bM_M_value_0, sM_isOne (n := aN W) _ _ t (aM_n hM) hf.1, sM_isSlot, sM_no6, zcI_some, zBp_t h1, zBp_t h2, i10, if_true, if_false, not_true_eq_false, not_false_eq_true, zin_nI h16 (show 16 < 2 ^ 31 by decide), nI_clamp (show o < 2 ^ 31 by omega), aXM_kind hf hX hM ho, h3]
      · refine ⟨zBp (aHas W o i = true), _, _, ?_, ?_, aRel_put (o := o) (g := 1) (v := a3) hf hX hM h4 h5 h6 hi (Or.inl ⟨rfl, rfl⟩)⟩
        · simp only [aX_X_value, bX_X_value_0, sX_hasObject (n := aN W) _ _ s hX.1 hf.1, sX_isSlot, sX_hasOwn _ o i s hf hX ho hi, sX_putValue _ o i a3 s h16 hi, zcI_some, zcV_some, zBp_t h1, zBp_t h2, i10, if_true, if_false, not_true_eq_false, not_false_eq_true, zin_nI h16 (show 16 < 2 ^ 31 by decide), nI_clamp (show o < 2 ^ 31 by omega), h3, nIe1]
          cases hh : aHas W o i with
          | true => rw [zBp_t rfl]; rfl
          | false => rw [zBp_f (by simp)]; rfl
        · simp only [aM_M_value, bM_M_value_0, sM_isOne (n := aN W) _ _ t (aM_n hM) hf.1, sM_isSlot, sM_hold0 _ o i a3 t hf hM ho hi, zcI_some, zcV_some, zBp_t h1, zBp_t h2, i10, if_true, if_false, not_true_eq_false, not_false_eq_true, zin_nI h16 (show 16 < 2 ^ 31 by decide), nI_clamp (show o < 2 ^ 31 by omega), aXM_kind hf hX hM ho, h3, aM_hbit hf hM ho hi]
    · refine ⟨-1, _, _, ?_, ?_, aRel_refuse 1 h⟩
      · simp only [aX_X_value, bX_X_value_0, sX_hasObject (n := aN W) _ _ s hX.1 hf.1, sX_isSlot, sX_refuse1, zcI_some, zBp_t h1, zBp_f h2, i10, if_true, if_false, not_true_eq_false, not_false_eq_true]
      · simp only [aM_M_value, bM_M_value_0, sM_isOne (n := aN W) _ _ t (aM_n hM) hf.1, sM_isSlot, sM_no1, zcI_some, zBp_t h1, zBp_f h2, i10, if_true, if_false, not_true_eq_false, not_false_eq_true]
  · refine ⟨-1, _, _, ?_, ?_, aRel_refuse 1 h⟩
    · simp only [aX_X_value, bX_X_value_0, sX_hasObject (n := aN W) _ _ s hX.1 hf.1, sX_refuse1, zcI_some, zBp_f h1, i10, if_true, if_false, not_true_eq_false, not_false_eq_true]
    · simp only [aM_M_value, bM_M_value_0, sM_isOne (n := aN W) _ _ t (aM_n hM) hf.1, sM_no1, zcI_some, zBp_f h1, i10, if_true, if_false, not_true_eq_false, not_false_eq_true]
theorem sX_isFunction (d : Nat) (x y : Int32) (s : zS) : zcall zMs skX (d + 1) 125 [.inl x, .inl y] s = some (some (.inl (zBp (zIn x 10 ∧ ((-99 : Int32).toInt ≤ y.toInt ∧ y.toInt ≤ (99 : Int32).toInt)))), s) := by
  rw [aX_X_isFunction]
  unfold bX_X_isFunction_0 zIn
  simp only [zlt, zle, zbo_0, zbo_1, t0, show (10 : Int32).toInt = 10 by decide]
  by_cases h1 : x.toInt < 0
  · rw [if_pos h1, zBp_f (by omega)]
  · rw [if_neg h1]
    by_cases h2 : 10 ≤ x.toInt
    · rw [if_pos h2, zBp_f (by omega)]
    · rw [if_neg h2]
      by_cases h3 : y.toInt < (-99 : Int32).toInt
      · rw [if_pos h3, zBp_f (by omega)]
      · rw [if_neg h3]
        by_cases h5 : (99 : Int32).toInt < y.toInt
        · rw [if_pos h5, zBp_f (by omega)]
        · rw [if_neg h5, zBp_t (by omega)]
theorem sM_in10 (d : Nat) (x : Int32) (s : zS) : zcall zMs skM (d + 1) 128 [.inl x, .inl 0, .inl 9] s = some (some (.inl (zBp (zIn x 10))), s) := by
  rw [sM_within, zB_iff (q := zIn x 10) (by unfold zIn; rw [t0, show (9 : Int32).toInt = 9 by decide]; omega)]
theorem sM_in99 (d : Nat) (x : Int32) (s : zS) : zcall zMs skM (d + 1) 128 [.inl x, .inl (-99), .inl 99] s = some (some (.inl (zBp ((-99 : Int32).toInt ≤ x.toInt ∧ x.toInt ≤ (99 : Int32).toInt))), s) := sM_within d x _ _ s
theorem sim_method (a1 a2 a3 a4 : Int32) : zSim aRel 94 164 [.inl a1, .inl a2, .inl a3, .inl a4] := by
  intro s t h
  obtain ⟨d, hd⟩ := zDp_e
  rw [hd]
  obtain ⟨W, hf, hX, hM, h4, h5, h6⟩ := id h
  have hn := hf.1
  by_cases h1 : zIn a1 (aN W)
  · by_cases h2 : zIn a2 16
    · obtain ⟨o, ho, rfl⟩ := zIn_ex h1 (by omega)
      obtain ⟨i, hi, rfl⟩ := zIn_ex h2 (by omega)
      have h16 := aWf_lt hf ho
      by_cases h7 : zIn a3 10
      · by_cases h8 : (-99 : Int32).toInt ≤ a4.toInt ∧ a4.toInt ≤ (99 : Int32).toInt
        · by_cases h3 : zg s 3 o = 3
          · refine ⟨-6, _, _, ?_, ?_, aRel_refuse 6 h⟩
            · simp only [aX_X_method, bX_X_method_0, sX_hasObject (n := aN W) _ _ s hX.1 hf.1, sX_isSlot, sX_isFunction, sX_refuse6, zcI_some, zBp_t h1, zBp_t h2, zBp_t (And.intro h7 h8), i10, if_true, if_false, not_true_eq_false, not_false_eq_true, zin_nI h16 (show 16 < 2 ^ 31 by decide), nI_clamp (show o < 2 ^ 31 by omega), h3]
            · simp only [aM_M_method, bM_M_method_0, sM_isOne (n := aN W) _ _ t (aM_n hM) hf.1, sM_isSlot, sM_in10, sM_in99, sM_no6, zcI_some, zBp_t h1, zBp_t h2, zBp_t h7, zBp_t h8, i10, if_true, if_false, not_true_eq_false, not_false_eq_true, zin_nI h16 (show 16 < 2 ^ 31 by decide), nI_clamp (show o < 2 ^ 31 by omega), aXM_kind hf hX hM ho, h3]
          · obtain ⟨g, hg, rfl⟩ := zIn_ex h7 (by omega)
            refine ⟨zBp (aHas W o i = true), _, _, ?_, ?_, aRel_put (o := o) (g := 2) (f := nI g) (v := a4) hf hX hM h4 h5 h6 hi (Or.inr ⟨rfl, g, hg, rfl⟩)⟩
            · simp only [aX_X_method, bX_X_method_0, sX_hasObject (n := aN W) _ _ s hX.1 hf.1, sX_isSlot, sX_isFunction, sX_hasOwn _ o i s hf hX ho hi, sX_putMethod _ o i (nI g) a4 s h16 hi, zcI_some, zcV_some, zBp_t h1, zBp_t h2, zBp_t (And.intro h7 h8), i10, if_true, if_false, not_true_eq_false, not_false_eq_true, zin_nI h16 (show 16 < 2 ^ 31 by decide), nI_clamp (show o < 2 ^ 31 by omega), h3, nIe2]
              cases hh : aHas W o i with
              | true => rw [zBp_t rfl]; rfl
              | false => rw [zBp_f (by simp)]; rfl
            · simp only [aM_M_method, bM_M_method_0, sM_isOne (n := aN W) _ _ t (aM_n hM) hf.1, sM_isSlot, sM_in10, sM_in99, sM_hold1 _ o i (nI g) a4 t hf hM ho hi, zcI_some, zcV_some, zBp_t h1, zBp_t h2, zBp_t h7, zBp_t h8, i10, if_true, if_false, not_true_eq_false, not_false_eq_true, zin_nI h16 (show 16 < 2 ^ 31 by decide), nI_clamp (show o < 2 ^ 31 by omega), aXM_kind hf hX hM ho, h3, aM_hbit hf hM ho hi]
        · refine ⟨-6, _, _, ?_, ?_, aRel_refuse 6 h⟩
          · simp only [aX_X_method, bX_X_method_0, sX_hasObject (n := aN W) _ _ s hX.1 hf.1, sX_isSlot, sX_isFunction, sX_refuse6, zcI_some, zBp_t h1, zBp_t h2, zBp_f (fun e => h8 (And.right (a := zIn a3 10) e)), i10, if_true, if_false, not_true_eq_false, not_false_eq_true]
          · simp only [aM_M_method, bM_M_method_0, sM_isOne (n := aN W) _ _ t (aM_n hM) hf.1, sM_isSlot, sM_in10, sM_in99, sM_no6, zcI_some, zBp_t h1, zBp_t h2, zBp_t h7, zBp_f h8, i10, if_true, if_false, not_true_eq_false, not_false_eq_true]
      · refine ⟨-6, _, _, ?_, ?_, aRel_refuse 6 h⟩
        · simp only [aX_X_method, bX_X_method_0, sX_hasObject (n := aN W) _ _ s hX.1 hf.1, sX_isSlot, sX_isFunction, sX_refuse6, zcI_some, zBp_t h1, zBp_t h2, zBp_f (fun e => h7 (And.left (b := (-99 : Int32).toInt ≤ a4.toInt ∧ a4.toInt ≤ (99 : Int32).toInt) e)), i10, if_true, if_false, not_true_eq_false, not_false_eq_true]
        · simp only [aM_M_method, bM_M_method_0, sM_isOne (n := aN W) _ _ t (aM_n hM) hf.1, sM_isSlot, sM_in10, sM_no6, zcI_some, zBp_t h1, zBp_t h2, zBp_f h7, i10, if_true, if_false, not_true_eq_false, not_false_eq_true]
    · refine ⟨-1, _, _, ?_, ?_, aRel_refuse 1 h⟩
      · simp only [aX_X_method, bX_X_method_0, sX_hasObject (n := aN W) _ _ s hX.1 hf.1, sX_isSlot, sX_refuse1, zcI_some, zBp_t h1, zBp_f h2, i10, if_true, if_false, not_true_eq_false, not_false_eq_true]
      · simp only [aM_M_method, bM_M_method_0, sM_isOne (n := aN W) _ _ t (aM_n hM) hf.1, sM_isSlot, sM_no1, zcI_some, zBp_t h1, zBp_f h2, i10, if_true, if_false, not_true_eq_false, not_false_eq_true]
  · refine ⟨-1, _, _, ?_, ?_, aRel_refuse 1 h⟩
    · simp only [aX_X_method, bX_X_method_0, sX_hasObject (n := aN W) _ _ s hX.1 hf.1, sX_refuse1, zcI_some, zBp_f h1, i10, if_true, if_false, not_true_eq_false, not_false_eq_true]
    · simp only [aM_M_method, bM_M_method_0, sM_isOne (n := aN W) _ _ t (aM_n hM) hf.1, sM_no1, zcI_some, zBp_f h1, i10, if_true, if_false, not_true_eq_false, not_false_eq_true]
theorem sim_remove (a1 a2 : Int32) : zSim aRel 95 166 [.inl a1, .inl a2] := by
  intro s t h
  obtain ⟨d, hd⟩ := zDp_e
  rw [hd]
  obtain ⟨W, hf, hX, hM, h4, h5, h6⟩ := id h
  have hn := hf.1
  by_cases h1 : zIn a1 (aN W)
  · by_cases h2 : zIn a2 16
    · obtain ⟨o, ho, rfl⟩ := zIn_ex h1 (by omega)
      obtain ⟨i, hi, rfl⟩ := zIn_ex h2 (by omega)
      have h16 := aWf_lt hf ho
      by_cases hh : aHas W o i = true
      · by_cases h3 : zg s 3 o = 3
        · refine ⟨-6, _, _, ?_, ?_, aRel_refuse 6 h⟩
          · simp only [aX_X_remove, bX_X_remove_0, sX_hasObject (n := aN W) _ _ s hX.1 hf.1, sX_isSlot, sX_hasOwn _ o i s hf hX ho hi, sX_refuse6, zcI_some, zBp_t h1, zBp_t h2, zBp_t hh, i10, if_true, if_false, not_true_eq_false, not_false_eq_true, zin_nI h16 (show 16 < 2 ^ 31 by decide), nI_clamp (show o < 2 ^ 31 by omega), h3]
          · simp only [aM_M_remove, bM_M_remove_0, sM_isOne (n := aN W) _ _ t (aM_n hM) hf.1, sM_isSlot, aM_has hf hM ho, sM_isIn _ _ i hi, sM_no6, zcI_some, zBp_t h1, zBp_t h2, zBp_t hh, i10, if_true, if_false, not_true_eq_false, not_false_eq_true, zin_nI h16 (show 16 < 2 ^ 31 by decide), nI_clamp (show o < 2 ^ 31 by omega), aXM_kind hf hX hM ho, h3]
        · refine ⟨1, _, _, ?_, ?_, aRel_drop (o := o) hf hX hM h4 h5 h6 hi⟩
          · simp only [aX_X_remove, bX_X_remove_0, sX_hasObject (n := aN W) _ _ s hX.1 hf.1, sX_isSlot, sX_hasOwn _ o i s hf hX ho hi, sX_drop _ o i s h16 hi, zcI_some, zcV_some, zBp_t h1, zBp_t h2, zBp_t hh, i10, if_true, if_false, not_true_eq_false, not_false_eq_true, zin_nI h16 (show 16 < 2 ^ 31 by decide), nI_clamp (show o < 2 ^ 31 by omega), h3]
          · simp only [aM_M_remove, bM_M_remove_0, sM_isOne (n := aN W) _ _ t (aM_n hM) hf.1, sM_isSlot, aM_has hf hM ho, sM_isIn _ _ i hi, sM_drops _ o i t hf hM ho hi, zcI_some, zcV_some, zBp_t h1, zBp_t h2, zBp_t hh, i10, if_true, if_false, not_true_eq_false, not_false_eq_true, zin_nI h16 (show 16 < 2 ^ 31 by decide), nI_clamp (show o < 2 ^ 31 by omega), aXM_kind hf hX hM ho, h3]
      · refine ⟨-5, _, _, ?_, ?_, aRel_refuse 5 h⟩
        · simp only [aX_X_remove, bX_X_remove_0, sX_hasObject (n := aN W) _ _ s hX.1 hf.1, sX_isSlot, sX_hasOwn _ o i s hf hX ho hi, sX_refuse5, zcI_some, zBp_t h1, zBp_t h2, zBp_f hh, i10, if_true, if_false, not_true_eq_false, not_false_eq_true]
        · simp only [aM_M_remove, bM_M_remove_0, sM_isOne (n := aN W) _ _ t (aM_n hM) hf.1, sM_isSlot, aM_has hf hM ho, sM_isIn _ _ i hi, sM_no5, zcI_some, zBp_t h1, zBp_t h2, zBp_f hh, i10, if_true, if_false, not_true_eq_false, not_false_eq_true, zin_nI h16 (show 16 < 2 ^ 31 by decide), nI_clamp (show o < 2 ^ 31 by omega)]
    · refine ⟨-1, _, _, ?_, ?_, aRel_refuse 1 h⟩
      · simp only [aX_X_remove, bX_X_remove_0, sX_hasObject (n := aN W) _ _ s hX.1 hf.1, sX_isSlot, sX_refuse1, zcI_some, zBp_t h1, zBp_f h2, i10, if_true, if_false, not_true_eq_false, not_false_eq_true]
      · simp only [aM_M_remove, bM_M_remove_0, sM_isOne (n := aN W) _ _ t (aM_n hM) hf.1, sM_isSlot, sM_no1, zcI_some, zBp_t h1, zBp_f h2, i10, if_true, if_false, not_true_eq_false, not_false_eq_true]
  · refine ⟨-1, _, _, ?_, ?_, aRel_refuse 1 h⟩
    · simp only [aX_X_remove, bX_X_remove_0, sX_hasObject (n := aN W) _ _ s hX.1 hf.1, sX_refuse1, zcI_some, zBp_f h1, i10, if_true, if_false, not_true_eq_false, not_false_eq_true]
    · simp only [aM_M_remove, bM_M_remove_0, sM_isOne (n := aN W) _ _ t (aM_n hM) hf.1, sM_no1, zcI_some, zBp_f h1, i10, if_true, if_false, not_true_eq_false, not_false_eq_true]
