/-! days -/
def dNx (v : Int32) : Int32 := v * (1103515245 : Int32) + (12345 : Int32)
def dQ (v : Int32) : Nat := v.toBitVec.toNat / 2 ^ 16
theorem dQ_lt (v : Int32) : dQ v < 65536 := by
  have := v.toBitVec.isLt
  unfold dQ
  omega
theorem dQ_e (v : Int32) : UInt32.toInt32 (Int32.toUInt32 v >>> (Int32.toUInt32 (16 : Int32) &&& Int32.toUInt32 31)) = nI (dQ v) := by
  have h := pk_ushr v 16 16 (by decide)
  rw [← nI_bits (UInt32.toInt32 (Int32.toUInt32 v >>> (Int32.toUInt32 (16 : Int32) &&& Int32.toUInt32 31))), h]
  rfl
def aSeed (W : aW) (v : Int32) : aW := (aN W, aK W, aP W, aO W, aS W, aWn W, aWy W, v)
theorem aSeed_f {W : aW} {v : Int32} (hf : aWf W) : aWf (aSeed W v) := hf
theorem aSeed_X {W : aW} {s : zS} {v : Int32} (hX : aX 2 s W) : aX 2 (zs s 2 2 v) (aSeed W v) := by
  obtain ⟨x1, x2, x3, x4, x5, x6⟩ := hX
  exact ⟨x1, x2, rfl, x4, x5, x6⟩
theorem aSeed_M {W : aW} {t : zS} {v : Int32} (hM : aMz t W) : aMz (zs t 0 12 v) (aSeed W v) := by
  obtain ⟨x1, x2, x3, x4, x5, x6, x7⟩ := hM
  exact ⟨x1, x2, rfl, x4, x5, x6, x7⟩
theorem zne_nI {n : Nat} (h0 : 0 < n) (hn : n < 2 ^ 31) (r : zR) : zne (nI n) r = r := by
  unfold zne
  rw [if_neg (nI_ne0 h0 hn)]
theorem sX_draw (d n : Nat) (s : zS) (v : Int32) (h : zg s 2 2 = v) (h0 : 0 < n) (hn : n < 2 ^ 31) : zcall zMs skX (d + 1) 80 [.inr (.inr 2), .inl (nI n)] s = some (some (.inl (nI (dQ (dNx v) % n))), zs s 2 2 (dNx v)) := by
  rw [aX_W_draw]
  unfold bX_W_draw_0
  rw [h]
  rw [show v * (1103515245 : Int32) + (12345 : Int32) = dNx v from rfl, if_neg (nI_nle h0 hn), zne_nI h0 hn, dQ_e, pk_rem (Nat.lt_trans (dQ_lt _) (by decide)) h0 hn]
theorem sM_draw (d n : Nat) (t : zS) (v : Int32) (h : zg t 0 12 = v) (h0 : 0 < n) (hn : n < 2 ^ 31) : zcall zMs skM (d + 1) 205 [.inr (.inr 0), .inl (nI n)] t = some (some (.inl (nI (dQ (dNx v) % n))), zs t 0 12 (dNx v)) := by
  rw [aM_M_draw]
  unfold bM_M_draw_0
  rw [h]
  rw [show v * (1103515245 : Int32) + (12345 : Int32) = dNx v from rfl, zne_nI h0 hn, dQ_e, pk_rem (Nat.lt_trans (dQ_lt _) (by decide)) h0 hn]
theorem mBeg_seed (t : zS) (o : Nat) (v : Int32) : zs (mBeg t o) 0 12 v = mBeg (zs t 0 12 v) o := by
  refine zS_ext (fun p i => ?_) (fun _ _ => rfl)
  by_cases h0 : p = 0
  · subst h0
    have hb : ∀ t', zg (mBeg t' o) 0 i = if i = 38 then nI o else if i = 28 then 0 else if i = 33 then 0 else zg t' 0 i := by
      intro t'
      by_cases c1 : i = 38
      · rw [if_pos c1, c1]; exact (mBeg_f t' o).1
      · by_cases c2 : i = 28
        · rw [if_neg c1, if_pos c2, c2]; exact (mBeg_f t' o).2.1
        · by_cases c3 : i = 33
          · rw [if_neg c1, if_neg c2, if_pos c3, c3]; exact (mBeg_f t' o).2.2
          · rw [if_neg c1, if_neg c2, if_neg c3]; exact mBeg_0 t' o i c1 c2 c3
    rw [zg_zs, if_pos rfl, hb, hb, zg_zs, if_pos rfl]
    by_cases hi : i = 12
    · rw [if_pos hi, if_neg (by omega), if_neg (by omega), if_neg (by omega), if_pos hi]
    · rw [if_neg hi]
      split
      · rfl
      · split
        · rfl
        · split
          · rfl
          · rfl
  · rw [zgz_ne h0]
    by_cases h25 : p = 25
    · subst h25
      by_cases hi : i < 544
      · rw [mBeg_25 _ _ _ hi, mBeg_25 _ _ _ hi, mFl_seed (by omega)]
      · unfold mBeg
        rw [zM_out (by omega), zM_out (by omega)]
        rfl
    · rw [mBeg_o _ _ _ _ h0 h25, mBeg_o _ _ _ _ h0 h25, zgz_ne h0]
/-- what holds between two days -/
def dI (n0 : Nat) (s0 t0 s t : zS) : Prop := ∃ W, aWf W ∧ aN W = n0 ∧ aX 2 s W ∧ aMz t W ∧ (∃ r, r ≤ 200 ∧ zg s 1 4 = nI r ∧ zg t 0 29 = nI r) ∧ zg s 1 3 = zg s0 1 3 ∧ (∀ i, i < 30 → zg s 17 i = zg s0 17 i) ∧ (∀ p, (p = 0 ∨ 22 ≤ p) → ∀ i, zg s p i = zg s0 p i) ∧ (∀ p i, zgl s p i = zgl s0 p i) ∧ (∀ p, (11 ≤ p ∧ p ≠ 20 ∧ p ≠ 25) → ∀ i, zg t p i = zg t0 p i) ∧ (∀ i, i ≠ 12 → i ≠ 28 → i ≠ 29 → i ≠ 33 → i ≠ 38 → zg t 0 i = zg t0 0 i) ∧ (∀ p i, zgl t p i = zgl t0 p i)
theorem dI_rel {n0 : Nat} {s0 t0 s t : zS} (h : dI n0 s0 t0 s t) (h4 : aSh n0 s0 t0) (h5 : aRest s0 t0) (h6 : aImg s0 t0) : aRel s t := by
  obtain ⟨W, hf, hn, q1, q2, -, q3, q4, q5, q6, q7, q8, q9⟩ := h
  obtain ⟨-, -, r3, r4, k, hk, r5, r6, r7⟩ := id h5
  rw [← hn] at h4
  refine aRel_act (W := W) hf rfl q1 q2 (fun p hp i => q5 p (Or.inr hp) i) (q5 0 (Or.inl rfl) 7) (q5 0 (Or.inl rfl) 8) q6 (fun p hp i => q7 p (by omega) i) (q8 16 (by decide) (by decide) (by decide) (by decide) (by decide)) (q8 39 (by decide) (by decide) (by decide) (by decide) (by decide)) q9 ?_ ?_ ⟨k, hk, q3.trans r5, (q8 32 (by decide) (by decide) (by decide) (by decide) (by decide)).trans r6, ?_⟩ h4 h5 h6
  · rw [q5 0 (Or.inl rfl), q8 30 (by decide) (by decide) (by decide) (by decide) (by decide), r3]
  · rw [q5 0 (Or.inl rfl), q8 31 (by decide) (by decide) (by decide) (by decide) (by decide), r4]
  · intro i hi hi30
    rw [q4 i hi30, q7 21 (by decide), r7 i hi hi30]
theorem aSeed_n (W : aW) (v : Int32) : aN (aSeed W v) = aN W := rfl
/-- another seed -/
theorem dI_seed {n0 : Nat} {s0 t0 s t : zS} (v : Int32) (h : dI n0 s0 t0 s t) : dI n0 s0 t0 (zs s 2 2 v) (zs t 0 12 v) := by
  obtain ⟨W, hf, hnn, q1, q2, q2', q3, q4, q5, q6, q7, q8, q9⟩ := h
  refine ⟨aSeed W v, aSeed_f hf, (aSeed_n W v).trans hnn, aSeed_X q1, aSeed_M q2, ?_, ?_, ?_, ?_, q6, ?_, ?_, q9⟩
  · obtain ⟨r, r1, r2, r3⟩ := q2'
    exact ⟨r, r1, (zgz_ne (by decide)).trans r2, (zgz_nj (by decide)).trans r3⟩
  · exact (zgz_ne (by decide)).trans q3
  · intro i hi
    exact (zgz_ne (by decide)).trans (q4 i hi)
  · intro p hp i
    exact (zgz_ne (by omega)).trans (q5 p hp i)
  · intro p hp i
    exact (zgz_ne (by omega)).trans (q7 p hp i)
  · intro i a b c d e
    exact (zgz_nj a).trans (q8 i a b c d e)
theorem dI_sd {n0 : Nat} {s0 t0 s t : zS} (h : dI n0 s0 t0 s t) : zg s 2 2 = zg t 0 12 := by
  obtain ⟨W, -, -, q1, q2, -⟩ := h
  exact q1.2.2.1.trans q2.2.2.1.symm
/-- a draw -/
theorem dI_draw {n0 n : Nat} {s0 t0 s t : zS} (d : Nat) (h : dI n0 s0 t0 s t) (h0 : 0 < n) (hn : n < 2 ^ 31) : ∃ q v, q < n ∧ zcall zMs skX (d + 1) 80 [.inr (.inr 2), .inl (nI n)] s = some (some (.inl (nI q)), zs s 2 2 v) ∧ (∀ e, zcall zMs skM (e + 1) 205 [.inr (.inr 0), .inl (nI n)] t = some (some (.inl (nI q)), zs t 0 12 v)) ∧ (∀ o e, zcall zMs skM (e + 1) 205 [.inr (.inr 0), .inl (nI n)] (mBeg t o) = some (some (.inl (nI q)), mBeg (zs t 0 12 v) o)) ∧ dI n0 s0 t0 (zs s 2 2 v) (zs t 0 12 v) := by
  have hsd := dI_sd h
  generalize hw : zg t 0 12 = w at hsd
  have g1 := sX_draw d n s w hsd h0 hn
  have g2 : ∀ e, zcall zMs skM (e + 1) 205 [.inr (.inr 0), .inl (nI n)] t = some (some (.inl (nI (dQ (dNx w) % n))), zs t 0 12 (dNx w)) := fun e => sM_draw e n t w hw h0 hn
  have g3 : ∀ o e, zcall zMs skM (e + 1) 205 [.inr (.inr 0), .inl (nI n)] (mBeg t o) = some (some (.inl (nI (dQ (dNx w) % n))), mBeg (zs t 0 12 (dNx w)) o) := by
    intro o e
    rw [← mBeg_seed]
    exact sM_draw e n (mBeg t o) w ((mBeg_0 t o 12 (by decide) (by decide) (by decide)).trans hw) h0 hn
  exact ⟨_, _, Nat.mod_lt _ h0, g1, g2, g3, dI_seed _ h⟩
/-- a deed that changes slots -/
theorem dI_slot {n0 : Nat} {s0 t0 s t s' t' : zS} {W W' : aW} (h : dI n0 s0 t0 s t) (hf : aWf W') (hn : aN W' = n0) (hX : aX 2 s' W') (hM : aMz t' W') (hs : ∀ p, p ≠ 8 → p ≠ 9 → p ≠ 10 → ∀ i, zg s' p i = zg s p i) (hsl : ∀ p i, zgl s' p i = zgl s p i) (ht : ∀ p, p ≠ 6 → p ≠ 7 → p ≠ 8 → p ≠ 9 → ∀ i, zg t' p i = zg t p i) (htl : ∀ p i, zgl t' p i = zgl t p i) : dI n0 s0 t0 s' t' := by
  obtain ⟨-, -, -, -, -, q2', q3, q4, q5, q6, q7, q8, q9⟩ := h
  refine ⟨W', hf, hn, hX, hM, ?_, ?_, ?_, ?_, fun p i => (hsl p i).trans (q6 p i), ?_, ?_, fun p i => (htl p i).trans (q9 p i)⟩
  · obtain ⟨r, r1, r2, r3⟩ := q2'
    exact ⟨r, r1, (hs 1 (by decide) (by decide) (by decide) 4).trans r2, (ht 0 (by decide) (by decide) (by decide) (by decide) 29).trans r3⟩
  · exact (hs 1 (by decide) (by decide) (by decide) 3).trans q3
  · intro i hi
    exact (hs 17 (by decide) (by decide) (by decide) i).trans (q4 i hi)
  · intro p hp i
    exact (hs p (by omega) (by omega) (by omega) i).trans (q5 p hp i)
  · intro p hp i
    exact (ht p (by omega) (by omega) (by omega) (by omega) i).trans (q7 p hp i)
  · intro i a b c d e
    exact (ht 0 (by decide) (by decide) (by decide) (by decide) i).trans (q8 i a b c d e)
