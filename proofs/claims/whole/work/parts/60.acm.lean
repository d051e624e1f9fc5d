/-! ACTS of the reference; what an act keeps -/
noncomputable def mBeg (t : zS) (o : Nat) : zS := zM (zs (zs (zs t 0 38 (nI o)) 0 28 0) 0 33 0) (fun p i => p = 25 ∧ i < 544) (fun _ i => mFl (zs (zs (zs t 0 38 (nI o)) 0 28 0) 0 33 0) i)
theorem sM_begins (d o : Nat) (t : zS) : zcall zMs skM (d + 2) 187 [.inr (.inr 0), .inl (nI o)] t = some (none, mBeg t o) := by
  rw [aM_M_begins]
  unfold bM_M_begins_0
  dsimp only
  rw [sM_keep25, zcV_some]
  rfl
theorem mBeg_o (t : zS) (o p i : Nat) (h0 : p ≠ 0) (h25 : p ≠ 25) : zg (mBeg t o) p i = zg t p i := by
  unfold mBeg
  rw [zM_out (fun h => h25 h.1), zgz_ne h0, zgz_ne h0, zgz_ne h0]
theorem mBeg_0 (t : zS) (o i : Nat) (h1 : i ≠ 38) (h2 : i ≠ 28) (h3 : i ≠ 33) : zg (mBeg t o) 0 i = zg t 0 i := by
  unfold mBeg
  rw [zM_out (fun h => absurd h.1 (by decide)), zgz_nj h3, zgz_nj h2, zgz_nj h1]
theorem mBeg_25 (t : zS) (o i : Nat) (h : i < 544) : zg (mBeg t o) 25 i = mFl t i := by
  unfold mBeg
  rw [zM_in (P := fun p i => p = 25 ∧ i < 544) ⟨rfl, h⟩]
  rfl
theorem mBeg_f (t : zS) (o : Nat) : zg (mBeg t o) 0 38 = nI o ∧ zg (mBeg t o) 0 28 = 0 ∧ zg (mBeg t o) 0 33 = 0 := by
  unfold mBeg
  refine ⟨?_, ?_, ?_⟩ <;> rw [zM_out (fun h => absurd h.1 (by decide))] <;> rfl
theorem mBeg_Q {W : aW} {o r : Nat} {t : zS} (hM : aMz t W) (h29 : zg t 0 29 = nI r) : mQ W o (mBeg t o) (mBeg t o) (aS W o, r, []) := by
  refine ⟨?_, (mBeg_0 t o 29 (by decide) (by decide) (by decide)).trans h29, (mBeg_f t o).2.2.trans nI_0.symm, fun i _ h => absurd h (Nat.not_lt_zero i), (mBeg_f t o).1, fun _ _ _ _ _ _ _ _ => rfl, fun _ _ _ _ => rfl, fun _ _ => rfl⟩
  show aMz (mBeg t o) (eSlf W o (aS W o))
  rw [eSlf_self]
  exact aMz_fr (fun p a b i => mBeg_o t o p i (by omega) (by omega)) (mBeg_0 t o 0 (by decide) (by decide) (by decide)) (mBeg_0 t o 10 (by decide) (by decide) (by decide)) (mBeg_0 t o 12 (by decide) (by decide) (by decide)) hM
noncomputable def mAg (t : zS) : zS := zM t (fun p i => ((p = 6 ∨ p = 7) ∧ i < 16) ∨ ((p = 8 ∨ p = 9) ∧ i < 256)) (fun p i => zg t 25 (rOff p + i))
theorem mAg_o (t : zS) (p i : Nat) (h6 : p ≠ 6) (h7 : p ≠ 7) (h8 : p ≠ 8) (h9 : p ≠ 9) : zg (mAg t) p i = zg t p i := by
  unfold mAg
  exact zM_out (by omega)
theorem mAg_6 (t : zS) (i : Nat) (h : i < 16) : zg (mAg t) 6 i = zg t 25 i ∧ zg (mAg t) 7 i = zg t 25 (16 + i) := by
  unfold mAg
  rw [zM_in (P := fun p i => ((p = 6 ∨ p = 7) ∧ i < 16) ∨ ((p = 8 ∨ p = 9) ∧ i < 256)) (Or.inl ⟨Or.inl rfl, h⟩), zM_in (P := fun p i => ((p = 6 ∨ p = 7) ∧ i < 16) ∨ ((p = 8 ∨ p = 9) ∧ i < 256)) (Or.inl ⟨Or.inr rfl, h⟩)]
  refine ⟨?_, rfl⟩
  show zg t 25 (0 + i) = _
  rw [Nat.zero_add]
theorem mAg_8 (t : zS) (i : Nat) (h : i < 256) : zg (mAg t) 8 i = zg t 25 (32 + i) ∧ zg (mAg t) 9 i = zg t 25 (288 + i) := by
  unfold mAg
  rw [zM_in (P := fun p i => ((p = 6 ∨ p = 7) ∧ i < 16) ∨ ((p = 8 ∨ p = 9) ∧ i < 256)) (Or.inr ⟨Or.inl rfl, h⟩), zM_in (P := fun p i => ((p = 6 ∨ p = 7) ∧ i < 16) ∨ ((p = 8 ∨ p = 9) ∧ i < 256)) (Or.inr ⟨Or.inr rfl, h⟩)]
  exact ⟨rfl, rfl⟩
theorem mAg_M {W : aW} {o : Nat} {S : Nat → Nat × Int32 × Int32} {t t' : zS} (hf : aWf W) (hM' : aMz t' (eSlf W o S)) (hM : aMz t W) (h25 : ∀ i, i < 544 → zg t' 25 i = mFl t i) : aMz (mAg t') W := by
  obtain ⟨m1, m2, m3, m4, -, -, m7⟩ := hM'
  obtain ⟨-, -, -, -, n5, n6, -⟩ := hM
  have ho : ∀ p, p ≠ 6 → p ≠ 7 → p ≠ 8 → p ≠ 9 → ∀ i, zg (mAg t') p i = zg t' p i := fun p a b c d i => mAg_o t' p i a b c d
  refine ⟨?_, ?_, ?_, ?_, ?_, ?_, ?_⟩
  · rw [ho 0 (by decide) (by decide) (by decide) (by decide)]; exact m1
  · rw [ho 0 (by decide) (by decide) (by decide) (by decide)]; exact m2
  · rw [ho 0 (by decide) (by decide) (by decide) (by decide)]; exact m3
  · simp only [ho 1 (by decide) (by decide) (by decide) (by decide), ho 2 (by decide) (by decide) (by decide) (by decide), ho 3 (by decide) (by decide) (by decide) (by decide), ho 4 (by decide) (by decide) (by decide) (by decide), ho 5 (by decide) (by decide) (by decide) (by decide)]
    exact m4
  · intro a ha
    have h16 := aWf_lt hf ha
    obtain ⟨a6, a7⟩ := mAg_6 t' a h16
    rw [a6, a7, h25 a (by omega), h25 (16 + a) (by omega), mFl_has t a h16, mFl_met t a h16]
    exact n5 a ha
  · intro a i ha hi hz
    have h16 := aWf_lt hf ha
    obtain ⟨a8, a9⟩ := mAg_8 t' (16 * a + i) (by omega)
    rw [a8, a9, h25 _ (by omega), h25 _ (by omega), mFl_fun t _ (by omega), mFl_num t _ (by omega)]
    exact n6 a i ha hi hz
  · intro w u hw hu
    rw [ho 10 (by decide) (by decide) (by decide) (by decide)]
    exact m7 w u hw hu
/-- what stands when the reference has come to the end of an act -/
def mFr (t u : zS) (o : Nat) (R : eR) (W' : aW) : Prop := aMz u W' ∧ zg u 0 28 = nI R.1 ∧ zg u 0 29 = nI R.2.2.2.1 ∧ zg u 0 33 = nI R.2.2.2.2.length ∧ (∀ i, i < 30 → i < R.2.2.2.2.length → zg u 20 i = nI (R.2.2.2.2.getD i 0)) ∧ (∀ p, p ≠ 0 → p ≠ 6 → p ≠ 7 → p ≠ 8 → p ≠ 9 → p ≠ 20 → p ≠ 25 → ∀ i, zg u p i = zg t p i) ∧ (∀ i, i ≠ 28 → i ≠ 29 → i ≠ 33 → i ≠ 38 → zg u 0 i = zg t 0 i) ∧ (∀ p i, zgl u p i = zgl t p i)
theorem mFin {W : aW} {o : Nat} {t : zS} {z : zR} {R : eR} (hf : aWf W) (hM : aMz t W) (h : mR W o (mBeg t o) z R) (hR : R.1 ≤ 2) (d : Nat) : ∃ v t', z = some (some (.inl v), t') ∧ zg t' 0 28 = nI R.1 ∧ zg t' 0 29 = nI R.2.2.2.1 ∧ (R.1 = 0 → v = R.2.1) ∧ (∃ t2, zcall zMs skM (d + 2) 188 [.inr (.inr 0), .inl v] t' = some (some (.inl (if R.1 = 0 then R.2.1 else 0)), t2) ∧ mFr t t2 o R (eFin W o R)) ∧ (∃ t3, zcall zMs skM (d + 1) 210 [.inr (.inr 0), .inr (.inr 25)] t' = some (none, t3) ∧ mFr t t3 o R W) := by
  obtain ⟨v, t', h1, hQ, h28, hv⟩ := h
  have h25 : ∀ i, i < 544 → zg t' 25 i = mFl t i := by
    intro i hi
    rw [hQ.2.2.2.2.2.1 25 (by decide) (by decide) (by decide) (by decide) (by decide) (by decide), mBeg_25 t o i hi]
  obtain ⟨q1, q2, q3, q4, q5, q6, q7, q8⟩ := hQ
  have fo : ∀ p, p ≠ 0 → p ≠ 6 → p ≠ 7 → p ≠ 8 → p ≠ 9 → p ≠ 20 → p ≠ 25 → ∀ i, zg t' p i = zg t p i := by
    intro p a b c d e f g i
    rw [q6 p a b c d e f, mBeg_o t o p i a g]
  have f0 : ∀ i, i ≠ 28 → i ≠ 29 → i ≠ 33 → i ≠ 38 → zg t' 0 i = zg t 0 i := by
    intro i a b c d
    rw [q7 i a b c, mBeg_0 t o i d a c]
  have fl : ∀ p i, zgl t' p i = zgl t p i := fun p i => q8 p i
  have hAg := mAg_M hf q1 hM h25
  have hfr : mFr t (mAg t') o R W := by
    have a0 : ∀ i, zg (mAg t') 0 i = zg t' 0 i := fun i => mAg_o t' 0 i (by decide) (by decide) (by decide) (by decide)
    refine ⟨hAg, by rw [a0]; exact h28, by rw [a0]; exact q2, by rw [a0]; exact q3, ?_, ?_, ?_, fl⟩
    · intro i a b
      rw [mAg_o t' 20 i (by decide) (by decide) (by decide) (by decide)]
      exact q4 i a b
    · intro p a b c d e f g i
      rw [mAg_o t' p i b c d e]
      exact fo p a b c d e f g i
    · intro i a b c d
      rw [a0]
      exact f0 i a b c d
  have e210 : ∀ d, zcall zMs skM (d + 1) 210 [.inr (.inr 0), .inr (.inr 25)] t' = some (none, mAg t') := fun d => sM_again25 d t'
  refine ⟨v, t', h1, h28, q2, hv, ?_, mAg t', e210 d, hfr⟩
  rw [aM_M_done]
  unfold bM_M_done_0
  by_cases hz : R.1 = 0
  · rw [h28, hz, if_neg (fun h => h nI_0), if_pos rfl, hv hz]
    refine ⟨t', rfl, ?_, by rw [h28], q2, q3, q4, fo, f0, fl⟩
    unfold eFin
    rw [if_pos hz]
    exact q1
  · rw [h28, if_pos (n28_ne hz hR), if_neg hz, e210, zcV_some]
    refine ⟨mAg t', rfl, ?_⟩
    unfold eFin
    rw [if_neg hz, eSlf_self]
    exact hfr
/-- an act keeps the relation -/
theorem aRel_act {s t s' t' : zS} {W W' : aW} (hf : aWf W') (hn : aN W' = aN W) (hX : aX 2 s' W') (hM : aMz t' W') (hs : ∀ p, 22 ≤ p → ∀ i, zg s' p i = zg s p i) (hs7 : zg s' 0 7 = zg s 0 7) (hs8 : zg s' 0 8 = zg s 0 8) (hsl : ∀ p i, zgl s' p i = zgl s p i) (ht : ∀ p, p = 11 ∨ p = 12 ∨ p = 15 ∨ p = 24 → ∀ i, zg t' p i = zg t p i) (ht16 : zg t' 0 16 = zg t 0 16) (ht39 : zg t' 0 39 = zg t 0 39) (htl : ∀ p i, zgl t' p i = zgl t p i) (h9 : zg s' 0 9 = zg t' 0 30) (h10 : zg s' 0 10 = zg t' 0 31) (htr : ∃ k, k ≤ 1000 ∧ zg s' 1 3 = nI k ∧ zg t' 0 32 = nI k ∧ ∀ i, i < k → i < 30 → zg s' 17 i = zg t' 21 i) (h4 : aSh (aN W) s t) (h5 : aRest s t) (h6 : aImg s t) : aRel s' t' := by
  refine ⟨W', hf, hX, aM_ofz hf hM, ?_, ?_, ?_⟩
  · rw [hn]
    intro k hk
    have := h4 k hk
    simp only [hs 33 (by decide), hs 34 (by decide), ht 11 (Or.inl rfl), ht 12 (Or.inr (Or.inl rfl)), hsl, htl]
    exact this
  · obtain ⟨r1, r2, -, -, -⟩ := h5
    refine ⟨fun k hk => ?_, ?_, h9, h10, htr⟩
    · rw [hs 44 (by decide), ht 15 (Or.inr (Or.inr (Or.inl rfl)))]
      exact r1 k hk
    · rw [hs8, ht16]
      exact r2
  · unfold aImg aX at h6 ⊢
    simp only [hs7, ht39, hs 22 (by decide), hs (22 + 1) (by decide), hs (22 + 2) (by decide), hs (22 + 3) (by decide), hs (22 + 4) (by decide), hs (22 + 5) (by decide), hs (22 + 6) (by decide), hs (22 + 7) (by decide), hs (22 + 8) (by decide), hs (22 + 9) (by decide), ht 24 (Or.inr (Or.inr (Or.inr rfl)))]
    exact h6
/-- what stands when the class has come to the end of an act -/
def cFrm (s s' : zS) (o k0 : Nat) (R : eR) (W' : aW) : Prop := aX 2 s' W' ∧ zg s' 1 5 = (if R.1 = 0 then R.2.1 else 0) ∧ zg s' 1 4 = nI R.2.2.2.1 ∧ zg s' 1 3 = nI (k0 + R.2.2.2.2.length) ∧ (∀ i, i < 30 → zg s' 17 i = if k0 ≤ i ∧ i < k0 + R.2.2.2.2.length then nI (R.2.2.2.2.getD (i - k0) 0) else zg s 17 i) ∧ zg s' 1 7 = nI o ∧ cSv s s' o ∧ (∀ p, p ≠ 1 → p ≠ 8 → p ≠ 9 → p ≠ 10 → p ≠ 17 → p ≠ 18 → p ≠ 19 → p ≠ 20 → p ≠ 21 → ∀ i, zg s' p i = zg s p i) ∧ (∀ p i, zgl s' p i = zgl s p i)
/-- the result of a send -/
def eSnd (W : aW) (o sl r : Nat) (x : Int32) : eR := ev W o (fun _ => []) 202 4 sl 0 x (aS W o, r, [])
theorem eSnd_ok {W : aW} {o r : Nat} (sl : Nat) (x : Int32) (hf : aWf W) (hr : r ≤ 200) : (eSnd W o sl r x).1 ≤ 2 ∧ eOk W o (eSnd W o sl r x).2.2 ∧ r ≤ (eSnd W o sl r x).2.2.2.1 ∧ (eSnd W o sl r x).2.2.2.2 = [] := by
  obtain ⟨p1, p2, p3, p4⟩ := ev_ok W o (fun _ => []) 202 4 sl 0 x _ (eOk_0 (o := o) hf hr)
  exact ⟨p1, p2, p3, p4 (fun _ => rfl)⟩
theorem eFin_f {W : aW} {o : Nat} {R : eR} (hf : aWf W) (h : eOk W o R.2.2) : aWf (eFin W o R) := by
  unfold eFin
  split
  · exact h.1
  · rw [eSlf_self]
    exact hf
theorem eFin_n (W : aW) (o : Nat) (R : eR) : aN (eFin W o R) = aN W := rfl
theorem cSend {W : aW} {o k0 d r sl : Nat} {s : zS} {x : Int32} (hf : aWf W) (ho : o < aN W) (hk0 : k0 ≤ 1000) (hX : aX 2 s W) (h4 : zg s 1 4 = nI r) (hr : r ≤ 200) (h3 : zg s 1 3 = nI k0) (hs : sl < 16) : ∃ s', zcall zMs skX (d + 10) 29 [.inr (.inr 1), .inl (nI o), .inl (nI sl), .inl x] s = some (some (.inl (nI (eSnd W o sl r x).1)), s') ∧ cFrm s s' o k0 (eSnd W o sl r x) (eFin W o (eSnd W o sl r x)) := by
  have uo : ∀ p i, p ≠ 1 → zg (uCome s 4 (nI sl) 0 x) p i = zg s p i := fun p i hp => uCome_o s _ _ _ _ p i hp
  obtain ⟨s', g1, g2, g3, g4, g5, g6, g7, g8, g9, g10⟩ := cCarry (d := d) (A := fun _ => []) (s := uCome s 4 (nI sl) 0 x) (c := 4) (sl := sl) (ix := 0) (x := x) hf ho hk0 (aX_fr (fun p a b i => uo p i (by omega)) hX) h4 hr h3 hs rfl (Or.inl rfl) (uCm_mk x (by decide) rfl (by decide))
  refine ⟨s', ?_, g2, g3, g4, g5, ?_, g7, ?_, ?_, ?_⟩
  · rw [aX_U_sendSlot]
    unfold bX_U_sendSlot_0
    rw [sU_come, zcV_some, g1, zcI_some]
    rfl
  · intro i hi
    rw [g6 i hi, uo 17 i (by decide)]
    rfl
  · intro i hi
    have := g8 i hi
    rw [uo 8 _ (by decide), uo 9 _ (by decide), uo 10 _ (by decide)] at this
    exact this
  · intro p a b c d e f g h j i
    rw [g9 p a b c d e f g h j i, uo p i a]
  · exact g10
theorem mSend1 {W : aW} {o r sl : Nat} {t : zS} (D : Nat) (x : Int32) (hf : aWf W) (ho : o < aN W) (hM : aMz t W) (h29 : zg t 0 29 = nI r) (hr : r ≤ 200) (hs : sl < 16) : mR W o (mBeg t o) (zcall zMs skM (D + 610) 179 [.inr (.inr 0), .inl (nI sl), .inl x] (mBeg t o)) (eSnd W o sl r x) :=
  (mAll (A := fun _ => []) (t0 := mBeg t o) ho 202 (D + 610) (by omega)).2.1 sl x _ (mBeg t o) ⟨eOk_0 hf hr, hs, by omega, fun _ => Nat.zero_le _, fun h => absurd rfl h, Or.inl rfl, by
    rw [if_neg (by decide)]
    show 201 + 0 ≤ 202 + r
    omega⟩ (mBeg_Q hM h29) (mBeg_f t o).2.1
