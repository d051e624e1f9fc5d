/-! ACTS: from the begin of a send or a call to its end, on both sides -/
theorem eSlf_self (W : aW) (o : Nat) : eSlf W o (aS W o) = W := by
  have h : (fun a b => if a = o then aS W o b else aS W a b) = aS W := by
    funext a b
    by_cases h : a = o
    · rw [if_pos h, h]
    · rw [if_neg h]
  exact congrArg (fun g => ((aN W, aK W, aP W, aO W, g, aWn W, aWy W, aSd W) : aW)) h
def eFin (W : aW) (o : Nat) (r : eR) : aW := eSlf W o (if r.1 = 0 then r.2.2.1 else aS W o)
theorem cLoop (d : Nat) : ∀ (k j n : Nat) (s s' : zS), cSt d k s s' → j + k < 10000 → zexec skX (zcall zMs skX (d + 8)) zT_U_carryOut 1 (n + k) 12 [some (.inr (.inr 1)), none, some (.inl 1), some (.inl (nI j))] [] s = zexec skX (zcall zMs skX (d + 8)) zT_U_carryOut 1 n 12 [some (.inr (.inr 1)), none, some (.inl 1), some (.inl (nI (j + k)))] [] s' := by
  intro k
  induction k with
  | zero =>
    intro j n s s' h _
    have h' : s = s' := h
    rw [h']
    rfl
  | succ k ih =>
    intro j n s s' h hj
    obtain ⟨s1, h1, h2⟩ := h
    rw [show n + (k + 1) = (n + k) + 1 by omega, hX_U_carryOut_12]
    unfold bX_U_carryOut_12
    rw [if_neg (show ¬ (10000 : Int32) ≤ nI j from nI_ge (show j < 10000 by omega) (by decide)), if_neg o1, h1, zcI_some, nI_1, ih (j + 1) n s1 s' h2 (by omega), show j + 1 + k = j + (k + 1) by omega]
def xUndo (s : zS) (o : Nat) : zS := zsc (zsc (zsc s 19 8 0 (o * 16) 16) 20 9 0 (o * 16) 16) 21 10 0 (o * 16) 16
def xSave (s : zS) (o : Nat) : zS := zsc (zsc (zsc s 8 19 (o * 16) 0 16) 9 20 (o * 16) 0 16) 10 21 (o * 16) 0 16
theorem nmul16b (k : Nat) : nI k * (16 : Int32) = nI (k * 16) := by
  rw [show (16 : Int32) = nI 16 from rfl, pk_mul]
theorem cl0 : Int32.toNatClampNeg (0 : Int32) = 0 := by decide
theorem cl16 : Int32.toNatClampNeg (16 : Int32) = 16 := by decide
theorem zcpin_u (o : Nat) (ho : o < 16) (r : zR) : zcpin (0 : Int32) (nI (o * 16)) (16 : Int32) 16 256 r = r := zcpin_ok (a := 0) (b := o * 16) (n := 16) r (by omega) (by omega) (by decide) (by decide)
theorem zcpin_s (o : Nat) (ho : o < 16) (r : zR) : zcpin (nI (o * 16)) (0 : Int32) (16 : Int32) 256 16 r = r := zcpin_ok (a := o * 16) (b := 0) (n := 16) r (by omega) (by omega) (by decide) (by decide)
theorem sU_undo (d o : Nat) (s : zS) (h7 : zg s 1 7 = nI o) (ho : o < 16) : zcall zMs skX (d + 1) 31 [.inr (.inr 1)] s = some (none, xUndo s o) := by
  rw [aX_U_undo]
  unfold bX_U_undo_0
  simp only [h7, nmul16b, zcpin_u o ho, nI_clamp (show o * 16 < 2 ^ 31 by omega), cl0, cl16]
  rfl
theorem sU_save (d o : Nat) (s : zS) (h7 : zg s 1 7 = nI o) (ho : o < 16) : zcall zMs skX (d + 1) 32 [.inr (.inr 1)] s = some (none, xSave s o) := by
  rw [aX_U_save]
  unfold bX_U_save_0
  simp only [h7, nmul16b, zcpin_s o ho, nI_clamp (show o * 16 < 2 ^ 31 by omega), cl0, cl16]
  rfl
theorem xUndo_o (s : zS) (o p i : Nat) (h8 : p ≠ 8) (h9 : p ≠ 9) (h10 : p ≠ 10) : zg (xUndo s o) p i = zg s p i := by
  unfold xUndo
  rw [zg_zsc, if_neg h10, zg_zsc, if_neg h9, zg_zsc, if_neg h8]
theorem xUndo_l (s : zS) (o p i : Nat) : zgl (xUndo s o) p i = zgl s p i := rfl
theorem xSave_o (s : zS) (o p i : Nat) (h8 : p ≠ 19) (h9 : p ≠ 20) (h10 : p ≠ 21) : zg (xSave s o) p i = zg s p i := by
  unfold xSave
  rw [zg_zsc, if_neg h10, zg_zsc, if_neg h9, zg_zsc, if_neg h8]
theorem xSave_l (s : zS) (o p i : Nat) : zgl (xSave s o) p i = zgl s p i := rfl
theorem xSave_s (s : zS) (o i : Nat) (hi : i < 16) : zg (xSave s o) 19 i = zg s 8 (o * 16 + i) ∧ zg (xSave s o) 20 i = zg s 9 (o * 16 + i) ∧ zg (xSave s o) 21 i = zg s 10 (o * 16 + i) := by
  unfold xSave
  refine ⟨?_, ?_, ?_⟩
  · rw [zg_zsc, if_neg (by decide), zg_zsc, if_neg (by decide), zg_zsc, if_pos rfl, if_pos ⟨Nat.zero_le _, by omega⟩, Nat.sub_zero]
  · rw [zg_zsc, if_neg (by decide), zg_zsc, if_pos rfl, if_pos ⟨Nat.zero_le _, by omega⟩, Nat.sub_zero, zg_zsc, if_neg (by decide)]
  · rw [zg_zsc, if_pos rfl, if_pos ⟨Nat.zero_le _, by omega⟩, Nat.sub_zero, zg_zsc, if_neg (by decide), zg_zsc, if_neg (by decide)]
theorem xUndo_u (s : zS) (o j : Nat) : zg (xUndo s o) 8 j = (if o * 16 ≤ j ∧ j < o * 16 + 16 then zg s 19 (j - o * 16) else zg s 8 j) ∧ zg (xUndo s o) 9 j = (if o * 16 ≤ j ∧ j < o * 16 + 16 then zg s 20 (j - o * 16) else zg s 9 j) ∧ zg (xUndo s o) 10 j = (if o * 16 ≤ j ∧ j < o * 16 + 16 then zg s 21 (j - o * 16) else zg s 10 j) := by
  unfold xUndo
  refine ⟨?_, ?_, ?_⟩
  · simp [zg_zsc]
  · simp [zg_zsc]
  · simp [zg_zsc]
/-- the slots that were saved -/
def cSv (s s' : zS) (o : Nat) : Prop := ∀ i, i < 16 → zg s' 19 i = zg s 8 (o * 16 + i) ∧ zg s' 20 i = zg s 9 (o * 16 + i) ∧ zg s' 21 i = zg s 10 (o * 16 + i)
theorem xUndo_X {W : aW} {o : Nat} {S : Nat → Nat × Int32 × Int32} {s s' : zS} (hX' : aX 2 s' (eSlf W o S)) (hX : aX 2 s W) (ho : o < aN W) (hv : cSv s s' o) : aX 2 (xUndo s' o) W := by
  obtain ⟨x1, x2, x3, x4, x5, x6⟩ := hX'
  obtain ⟨-, -, -, -, y5, -⟩ := hX
  have hp : ∀ p, p ≠ 8 → p ≠ 9 → p ≠ 10 → ∀ i, zg (xUndo s' o) p i = zg s' p i := fun p a b c i => xUndo_o s' o p i a b c
  refine ⟨?_, ?_, ?_, ?_, ?_, ?_⟩
  · rw [hp 2 (by decide) (by decide) (by decide)]; exact x1
  · rw [hp 2 (by decide) (by decide) (by decide)]; exact x2
  · rw [hp 2 (by decide) (by decide) (by decide)]; exact x3
  · simp only [hp (2 + 1) (by decide) (by decide) (by decide), hp (2 + 2) (by decide) (by decide) (by decide), hp (2 + 3) (by decide) (by decide) (by decide), hp (2 + 4) (by decide) (by decide) (by decide), hp (2 + 5) (by decide) (by decide) (by decide)]
    exact x4
  · intro a i ha hi
    obtain ⟨u8, u9, u10⟩ := xUndo_u s' o (a * 16 + i)
    show zg (xUndo s' o) 8 (a * 16 + i) = _ ∧ (_ → zg (xUndo s' o) 9 (a * 16 + i) = _ ∧ zg (xUndo s' o) 10 (a * 16 + i) = _)
    rw [u8, u9, u10]
    by_cases h : a = o
    · subst h
      obtain ⟨v1, v2, v3⟩ := hv i hi
      rw [if_pos ⟨by omega, by omega⟩, if_pos ⟨by omega, by omega⟩, if_pos ⟨by omega, by omega⟩, Nat.add_sub_cancel_left, v1, v2, v3]
      exact y5 a i ha hi
    · rw [if_neg (by omega), if_neg (by omega), if_neg (by omega)]
      have e : aS (eSlf W o S) a i = aS W a i := if_neg h
      have := x5 a i ha hi
      rw [e] at this
      exact this
  · simp only [hp (2 + 9) (by decide) (by decide) (by decide)]
    exact x6
theorem eOk_0 {W : aW} {o r : Nat} (hf : aWf W) (hr : r ≤ 200) : eOk W o (aS W o, r, []) := ⟨by show aWf (eSlf W o (aS W o)); rw [eSlf_self]; exact hf, hr, Nat.zero_le _⟩
/-- the class carries out -/
theorem cCarry {W : aW} {o k0 d r c sl ix : Nat} {A : Nat → List Nat} {s : zS} {x : Int32} (hf : aWf W) (ho : o < aN W) (hk0 : k0 ≤ 1000) (hX : aX 2 s W) (h4 : zg s 1 4 = nI r) (hr : r ≤ 200) (h3 : zg s 1 3 = nI k0) (hs : sl < 16) (hix : ix = 0) (hc : c = 4 ∨ (c = 3 ∧ cA W s A)) (hC : uCm s c sl ix x) : ∃ s', zcall zMs skX (d + 9) 33 [.inr (.inr 1), .inl (nI o)] s = some (some (.inl (nI (ev W o A 202 c sl ix x (aS W o, r, [])).1)), s') ∧ aX 2 s' (eFin W o (ev W o A 202 c sl ix x (aS W o, r, []))) ∧ zg s' 1 5 = (if (ev W o A 202 c sl ix x (aS W o, r, [])).1 = 0 then (ev W o A 202 c sl ix x (aS W o, r, [])).2.1 else 0) ∧ zg s' 1 4 = nI (ev W o A 202 c sl ix x (aS W o, r, [])).2.2.2.1 ∧ zg s' 1 3 = nI (k0 + (ev W o A 202 c sl ix x (aS W o, r, [])).2.2.2.2.length) ∧ (∀ i, i < 30 → zg s' 17 i = if k0 ≤ i ∧ i < k0 + (ev W o A 202 c sl ix x (aS W o, r, [])).2.2.2.2.length then nI ((ev W o A 202 c sl ix x (aS W o, r, [])).2.2.2.2.getD (i - k0) 0) else zg s 17 i) ∧ zg s' 1 7 = nI o ∧ cSv s s' o ∧ (∀ p, p ≠ 1 → p ≠ 8 → p ≠ 9 → p ≠ 10 → p ≠ 17 → p ≠ 18 → p ≠ 19 → p ≠ 20 → p ≠ 21 → ∀ i, zg s' p i = zg s p i) ∧ (∀ p i, zgl s' p i = zgl s p i) := by
  have h16 := aWf_lt hf ho
  have hok : eOk W o (aS W o, r, []) := eOk_0 hf hr
  obtain ⟨p1, p2, p3, -⟩ := ev_ok W o A 202 c sl ix x _ hok
  obtain ⟨h6, h8, h9, h10, h5⟩ := hC
  -- where the steps begin
  generalize hs0 : xSave (zs (zs s 1 7 (nI o)) 1 14 0) o = s0
  have g1 : ∀ j, j ≠ 7 → j ≠ 14 → zg s0 1 j = zg s 1 j := by
    intro j j7 j14
    rw [← hs0, xSave_o _ _ _ _ (by decide) (by decide) (by decide), zgz_nj j14, zgz_nj j7]
  have go : ∀ p i, p ≠ 1 → p ≠ 19 → p ≠ 20 → p ≠ 21 → zg s0 p i = zg s p i := by
    intro p i a b c d
    rw [← hs0, xSave_o _ _ _ _ b c d, zgz_ne a, zgz_ne a]
  have g7 : zg s0 1 7 = nI o := by
    rw [← hs0, xSave_o _ _ _ _ (by decide) (by decide) (by decide), zgz_nj (by decide), zgz_eq]
  have g14 : zg s0 1 14 = 0 := by
    rw [← hs0, xSave_o _ _ _ _ (by decide) (by decide) (by decide), zgz_eq]
  have gl : ∀ p i, zgl s0 p i = zgl s p i := by
    intro p i
    rw [← hs0]
    rfl
  have gv : cSv s s0 o := by
    intro i hi
    rw [← hs0]
    exact xSave_s _ o i hi
  have hQ0 : cQ W o k0 s0 s0 (aS W o, r, []) := by
    refine ⟨?_, (g1 4 (by decide) (by decide)).trans h4, (g1 3 (by decide) (by decide)).trans h3, ?_, g7, fun _ _ _ _ _ _ _ _ => rfl, fun _ _ => rfl⟩
    · show aX 2 s0 (eSlf W o (aS W o))
      rw [eSlf_self]
      exact aX_fr (fun p a b i => go p i (by omega) (by omega) (by omega) (by omega)) hX
    · intro i hi
      show _ = if k0 ≤ i ∧ i < k0 + 0 then _ else _
      rw [if_neg (by omega)]
  have hF0 : cF s0 [] := ⟨by rw [g14]; exact nI_0.symm, trivial, Nat.zero_le _⟩
  have hA0 : c ≠ 4 → cA W s0 A := by
    intro h
    obtain ⟨-, hA⟩ := hc.resolve_left h
    refine ⟨fun c hc => ?_, hA.2⟩
    obtain ⟨a1, a2, a3⟩ := hA.1 c hc
    refine ⟨by rw [go 13 c (by decide) (by decide) (by decide) (by decide)]; exact a1, a2, fun i w hw => ?_⟩
    rw [go 14 _ (by decide) (by decide) (by decide) (by decide)]
    exact a3 i w hw
  have hpre : uPre W o A s0 202 c sl ix (aS W o, r, []) [] := by
    refine ⟨hok, hs, by omega, fun _ => by omega, hA0, ?_, ?_, Nat.zero_le _⟩
    · rcases hc with rfl | ⟨rfl, -⟩ <;> decide
    · show 201 + _ ≤ 202 + r
      split <;> omega
  obtain ⟨k, s', f1, f2, f3, f4, f5, f6⟩ := (cCome (d := d) ho hk0 202 c sl ix x _ [] s0 hpre hQ0 hF0 ⟨(g1 6 (by decide) (by decide)).trans h6, (g1 8 (by decide) (by decide)).trans h8, (g1 9 (by decide) (by decide)).trans h9, (g1 10 (by decide) (by decide)).trans h10, (g1 5 (by decide) (by decide)).trans h5⟩).1
  generalize ev W o A 202 c sl ix x (aS W o, r, []) = R at p1 p2 p3 f2 f3 f4 f5 f6 ⊢
  have hk : k ≤ 2010 := by
    have hR := p2.2.1
    have : k + 10 * r + 3 ≤ 10 * R.2.2.2.1 + (if R.1 = 2 then 5 else 5) := f2
    split at this <;> omega
  have hstop : zcall zMs skX (d + 8) 34 [.inr (.inr 1)] s' = some (some (.inl 0), s') := by
    by_cases hz : R.1 = 2
    · exact tS_end (by rw [f4, hz]; rfl)
    · have hF := f6 hz
      refine tS_stop ?_ (by rw [hF.1]; exact nI_0)
      by_cases hz0 : R.1 = 0
      · left; rw [f4, hz0]; rfl
      · right; rw [f4, show R.1 = 1 by omega]; rfl
  have hv' : cSv s s' o := by
    intro i hi
    obtain ⟨v1, v2, v3⟩ := gv i hi
    rw [f3.2.2.2.2.2.1 19 (by decide) (by decide) (by decide) (by decide) (by decide) (by decide), f3.2.2.2.2.2.1 20 (by decide) (by decide) (by decide) (by decide) (by decide) (by decide), f3.2.2.2.2.2.1 21 (by decide) (by decide) (by decide) (by decide) (by decide) (by decide)]
    exact ⟨v1, v2, v3⟩
  have h7' := f3.2.2.2.2.1
  rw [aX_U_carryOut]
  unfold bX_U_carryOut_0
  have hsv := sU_save (d + 7) o (zs (zs s 1 7 (nI o)) 1 14 0) rfl h16
  rw [hs0] at hsv
  have hlp := cLoop d k 0 (19999 - k) s0 s' f1 (by omega)
  rw [show 19999 - k + k = 19999 by omega, nI_0] at hlp
  simp only [hsv, zcV_some]
  rw [hlp]
  obtain ⟨n, hn⟩ : ∃ n, 19999 - k = n + 2 := ⟨19997 - k, by omega⟩
  rw [hn, hX_U_carryOut_12]
  unfold bX_U_carryOut_12
  rw [Nat.zero_add, if_neg (show ¬ (10000 : Int32) ≤ nI k from nI_ge (show k < 10000 by omega) (by decide)), if_neg o1, hstop, zcI_some, nI_1, hX_U_carryOut_12]
  unfold bX_U_carryOut_12
  rw [if_neg (show ¬ (10000 : Int32) ≤ nI (k + 1) from nI_ge (show k + 1 < 10000 by omega) (by decide)), if_pos (show (0 : Int32) = 0 from rfl)]
  obtain ⟨q1, q2, q3, q4, q5, q6, q7⟩ := f3
  have q4' : ∀ i, i < 30 → zg s' 17 i = if k0 ≤ i ∧ i < k0 + R.2.2.2.2.length then nI (R.2.2.2.2.getD (i - k0) 0) else zg s 17 i := by
    intro i hi
    rw [q4 i hi, go 17 i (by decide) (by decide) (by decide) (by decide)]
  have q6' : ∀ p, p ≠ 1 → p ≠ 8 → p ≠ 9 → p ≠ 10 → p ≠ 17 → p ≠ 18 → p ≠ 19 → p ≠ 20 → p ≠ 21 → ∀ i, zg s' p i = zg s p i := by
    intro p b1 b2 b3 b4 b5 b6 b7 b8 b9 i
    rw [q6 p b1 b2 b3 b4 b5 b6 i, go p i b1 b7 b8 b9]
  have q7' : ∀ p i, zgl s' p i = zgl s p i := fun p i => (q7 p i).trans (gl p i)
  by_cases hz : R.1 = 0
  · have e6 : zg s' 1 6 = 2 := by rw [f4, hz]; rfl
    rw [if_neg (fun h => h e6), hz, if_pos rfl]
    refine ⟨s', rfl, ?_, f5 hz, q2, q3, q4', q5, hv', q6', q7'⟩
    unfold eFin
    rw [if_pos hz]
    exact q1
  · have e6 : ¬ zg s' 1 6 = 2 := by
      rw [f4]
      exact fun h => by have := (nI_i3 (by omega) 2 (by omega)).mp h; omega
    have hX2 : aX 2 (xUndo s' o) (eFin W o R) := by
      unfold eFin
      rw [if_neg hz, eSlf_self]
      exact xUndo_X q1 hX ho hv'
    have u1 : ∀ i, zg (xUndo s' o) 1 i = zg s' 1 i := fun i => xUndo_o _ _ _ _ (by decide) (by decide) (by decide)
    have fin : aX 2 (zs (xUndo s' o) 1 5 0) (eFin W o R) ∧ zg (zs (xUndo s' o) 1 5 0) 1 5 = (if R.1 = 0 then R.2.1 else 0) ∧ zg (zs (xUndo s' o) 1 5 0) 1 4 = nI R.2.2.2.1 ∧ zg (zs (xUndo s' o) 1 5 0) 1 3 = nI (k0 + R.2.2.2.2.length) ∧ (∀ i, i < 30 → zg (zs (xUndo s' o) 1 5 0) 17 i = if k0 ≤ i ∧ i < k0 + R.2.2.2.2.length then nI (R.2.2.2.2.getD (i - k0) 0) else zg s 17 i) ∧ zg (zs (xUndo s' o) 1 5 0) 1 7 = nI o ∧ cSv s (zs (xUndo s' o) 1 5 0) o ∧ (∀ p, p ≠ 1 → p ≠ 8 → p ≠ 9 → p ≠ 10 → p ≠ 17 → p ≠ 18 → p ≠ 19 → p ≠ 20 → p ≠ 21 → ∀ i, zg (zs (xUndo s' o) 1 5 0) p i = zg s p i) ∧ (∀ p i, zgl (zs (xUndo s' o) 1 5 0) p i = zgl s p i) := by
      refine ⟨aX_fr (fun p a b i => zgz_ne (by omega)) hX2, ?_, ?_, ?_, ?_, ?_, ?_, ?_, ?_⟩
      · rw [if_neg hz]; rfl
      · rw [zgz_nj (by decide), u1]; exact q2
      · rw [zgz_nj (by decide), u1]; exact q3
      · intro i hi
        rw [zgz_ne (by decide), xUndo_o _ _ _ _ (by decide) (by decide) (by decide)]
        exact q4' i hi
      · rw [zgz_nj (by decide), u1]; exact q5
      · intro i hi
        rw [zgz_ne (by decide), zgz_ne (by decide), zgz_ne (by decide), xUndo_o _ _ _ _ (by decide) (by decide) (by decide), xUndo_o _ _ _ _ (by decide) (by decide) (by decide), xUndo_o _ _ _ _ (by decide) (by decide) (by decide)]
        exact hv' i hi
      · intro p b1 b2 b3 b4 b5 b6 b7 b8 b9 i
        rw [zgz_ne b1, xUndo_o _ _ _ _ b2 b3 b4]
        exact q6' p b1 b2 b3 b4 b5 b6 b7 b8 b9 i
      · intro p i
        exact q7' p i
    rw [if_pos e6, sU_undo _ o s' h7' h16, zcV_some, u1]
    by_cases hz1 : R.1 = 1
    · have e3 : zg s' 1 6 = 3 := by rw [f4, hz1]; rfl
      rw [e3, if_neg (show ¬ ¬ (3 : Int32) = 3 by decide)]
      refine ⟨_, ?_, fin⟩
      rw [hz1]
      rfl
    · have hz2 : R.1 = 2 := by omega
      have e4 : zg s' 1 6 = 4 := by rw [f4, hz2]; rfl
      rw [e4, if_pos (show ¬ (4 : Int32) = 3 by decide)]
      refine ⟨_, ?_, fin⟩
      rw [hz2]
      rfl
