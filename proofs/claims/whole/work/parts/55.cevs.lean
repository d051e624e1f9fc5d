/-! THE CORE and every come, by the class's runner -/
theorem eC_3 (c a b : Nat) : (if eC c = 3 then a else b) = if c = 3 then a else b := by
  unfold eC
  by_cases h : c = 3
  · subst h
    rfl
  · by_cases h0 : c = 0
    · subst h0
      rfl
    · rw [if_neg (show ¬ (c = 0 ∨ c = 3) by omega), if_neg h]
      rfl
def cEvW (W : aW) (o : Nat) (A : Nat → List Nat) (k0 : Nat) (s0 : zS) (d n : Nat) (E : eE) : Prop :=
  ∀ (c ix : Nat) (x : Int32) (e : eT) (F : List cFm) (s : zS), c < 3 → ix < (A c).length → eOk W o e → 201 ≤ n + e.2.1 → F.length ≤ e.2.1 + 1 → cQ W o k0 s0 s e → cF s F → uCm s c 0 ix x → cR W o k0 s0 d F s e 0 4 (E c 0 ix x e)
theorem cQ_13 {W : aW} {o k0 : Nat} {s0 s : zS} {e : eT} (h : cQ W o k0 s0 s e) (i : Nat) : zg s 13 i = zg s0 13 i := h.2.2.2.2.2.1 13 (by decide) (by decide) (by decide) (by decide) (by decide) (by decide) i
theorem cQ_14 {W : aW} {o k0 : Nat} {s0 s : zS} {e : eT} (h : cQ W o k0 s0 s e) (i : Nat) : zg s 14 i = zg s0 14 i := h.2.2.2.2.2.1 14 (by decide) (by decide) (by decide) (by decide) (by decide) (by decide) i
theorem cAft {W : aW} {o k0 d n : Nat} {A : Nat → List Nat} {s0 : zS} {E : eE} (hA : cA W s0 A) (hE : cEvW W o A k0 s0 d n E) (hP : ∀ c sl ix x e, eOk W o e → ePo W o A e (E c sl ix x e)) (v : Int32) (F : List cFm) : ∀ (m : Nat) (e : eT) (s : zS), m ≤ (A 2).length → eOk W o e → 201 ≤ n + e.2.1 → F.length + 1 ≤ e.2.1 + 1 → cQ W o k0 s0 s e → cF s ((3, v, 2, nI m - 1) :: F) → ∃ s1, zcall zMs skX (d + 6) 45 [.inr (.inr 1)] s = some (none, s1) ∧ cR W o k0 s0 d F s1 e 3 4 (eAft E v m e) := by
  have hA2 := (hA.1 2 (by decide)).2.1
  intro m
  induction m with
  | zero =>
    intro e s _ hok hfu hFl hQ hF
    exact ⟨_, sU_goEnd hF, cR_done 0 v 3 4 (uGive_Q _ (u14_Q 14 _ (by decide) (by decide) (by decide) hQ)) rfl (fun _ => rfl) (fun _ => uGive_F _ (uPop_F hF)) (by omega) (by omega)⟩
  | succ m ih =>
    intro e s hm hok hfu hFl hQ hF
    rw [nI_pred] at hF
    have hF1 : cF (zs s 18 (F.length * 4 + 3) (nI m - 1)) ((3, v, 2, nI m - 1) :: F) := u18_F 3 _ (by decide) hF
    obtain ⟨p1, p2, p3, -⟩ := hP 2 0 m v e hok
    refine ⟨_, sU_goAft hF (by omega), ?_⟩
    have hq := hE 2 m v e ((3, v, 2, nI m - 1) :: F) _ (by decide) (by omega) hok hfu (by simp only [List.length_cons]; omega) (uCome_Q 2 0 (nI m) v (u18_Q _ (nI m - 1) hQ)) (uCome_F _ _ _ _ hF1) (uCm_mk _ (by decide) (by decide) rfl)
    refine cR_bnd (c0 := 4) (c2 := 5) 3 4 hq p1 (show ¬ (3 : Int32) = 2 by decide) ?_ (by omega) (by omega) (by omega) (by omega)
    intro _ s' g1 g2 g3 g4
    obtain ⟨s2, f1, f2⟩ := ih (E 2 0 m v e).2.2 s' (by omega) p2 (by omega) (by omega) g1 g2
    exact cR_step (tS_give g3 (c14_ne g2) (sU_giveC g2 rfl (show ¬ (2 : Int32) = 0 by decide) f1)) f2
theorem cMain {W : aW} {o k0 d n : Nat} {A : Nat → List Nat} {s0 : zS} {E : eE} (hA : cA W s0 A) (hE : cEvW W o A k0 s0 d n E) (hP : ∀ c sl ix x e, eOk W o e → ePo W o A e (E c sl ix x e)) (hA0 : 0 < (A 0).length) (x t : Int32) (F : List cFm) (e : eT) (s : zS) (ht : ¬ t = 2) (hok : eOk W o e) (hfu : 201 ≤ n + e.2.1) (hFl : F.length + 1 ≤ e.2.1 + 1) (hQ : cQ W o k0 s0 s e) (hF : cF s ((3, x, t, nI (A 1).length) :: F)) : ∃ s1, zcall zMs skX (d + 6) 45 [.inr (.inr 1)] s = some (none, s1) ∧ cR W o k0 s0 d F s1 e 3 4 (eMain E A x e) := by
  have hA1 := hA.1 1 (by decide)
  have hA2 := hA.1 2 (by decide)
  have hF1 : cF (zs s 18 (F.length * 4 + 2) 0) ((3, x, 0, nI (A 1).length) :: F) := u18_F 2 _ (by decide) hF
  obtain ⟨p1, p2, p3, -⟩ := hP 0 0 0 x e hok
  refine ⟨_, sU_goMain hF ht ((cQ_13 hQ 1).trans hA1.1) hA1.2.1 rfl, ?_⟩
  have hq := hE 0 0 x e ((3, x, 0, nI (A 1).length) :: F) _ (by decide) hA0 hok hfu (by simp only [List.length_cons]; omega) (uCome_Q 0 0 0 x (u18_Q _ 0 hQ)) (uCome_F _ _ _ _ hF1) (uCm_mk _ (by decide) (by decide) (by decide))
  refine cR_bnd (c0 := 4) (c2 := 5) 3 4 hq p1 (show ¬ (3 : Int32) = 2 by decide) ?_ (by omega) (by omega) (by omega) (by omega)
  intro _ s' g1 g2 g3 g4
  have hF2 : cF (uMain s' F.length (E 0 0 0 x e).2.1 (nI (A 2).length - 1)) ((3, (E 0 0 0 x e).2.1, 2, nI (A 2).length - 1) :: F) :=
    u18_F 3 _ (by decide) (u18_F 2 _ (by decide) (u18_F 1 _ (by decide) g2))
  obtain ⟨s2, f1, f2⟩ := cAft hA hE hP (E 0 0 0 x e).2.1 F (A 2).length (E 0 0 0 x e).2.2 _ (Nat.le_refl _) p2 (by omega) (by omega) (u18_Q _ _ (u18_Q _ _ (u18_Q _ _ g1))) hF2
  rw [← g4] at f1
  exact cR_step (tS_give g3 (c14_ne g2) (sU_giveM g2 rfl rfl ((cQ_13 g1 2).trans hA2.1) f1)) f2
theorem cBef {W : aW} {o k0 d n : Nat} {A : Nat → List Nat} {s0 : zS} {E : eE} (hA : cA W s0 A) (hE : cEvW W o A k0 s0 d n E) (hP : ∀ c sl ix x e, eOk W o e → ePo W o A e (E c sl ix x e)) (hA0 : 0 < (A 0).length) (x : Int32) (F : List cFm) : ∀ (m i : Nat) (e : eT) (s : zS), i + m = (A 1).length → eOk W o e → 201 ≤ n + e.2.1 → F.length + 1 ≤ e.2.1 + 1 → cQ W o k0 s0 s e → cF s ((3, x, 1, nI i) :: F) → ∃ s1, zcall zMs skX (d + 6) 45 [.inr (.inr 1)] s = some (none, s1) ∧ cR W o k0 s0 d F s1 e 3 4 (eBef E A x m i e) := by
  have hA1 := hA.1 1 (by decide)
  intro m
  induction m with
  | zero =>
    intro i e s hi hok hfu hFl hQ hF
    have hi' : i = (A 1).length := by omega
    rw [hi'] at hF
    exact cMain hA hE hP hA0 x 1 F e s (by decide) hok hfu hFl hQ hF
  | succ m ih =>
    intro i e s hi hok hfu hFl hQ hF
    have hF1 : cF (zs s 18 (F.length * 4 + 3) (nI (i + 1))) ((3, x, 1, nI (i + 1)) :: F) := u18_F 3 _ (by decide) hF
    obtain ⟨p1, p2, p3, -⟩ := hP 1 0 i x e hok
    refine ⟨_, sU_goBef hF (by decide) ((cQ_13 hQ 1).trans hA1.1) hA1.2.1 (by omega), ?_⟩
    have hq := hE 1 i x e ((3, x, 1, nI (i + 1)) :: F) _ (by decide) (by omega) hok hfu (by simp only [List.length_cons]; omega) (uCome_Q 1 0 (nI i) x (u18_Q _ (nI (i + 1)) hQ)) (uCome_F _ _ _ _ hF1) (uCm_mk _ (by decide) (by decide) rfl)
    refine cR_bnd (c0 := 4) (c2 := 5) 3 4 hq p1 (show ¬ (3 : Int32) = 2 by decide) ?_ (by omega) (by omega) (by omega) (by omega)
    intro _ s' g1 g2 g3 g4
    obtain ⟨s2, f1, f2⟩ := ih (i + 1) (E 1 0 i x e).2.2 s' (by omega) p2 (by omega) (by omega) g1 g2
    exact cR_step (tS_give g3 (c14_ne g2) (sU_giveC g2 rfl (show ¬ (1 : Int32) = 0 by decide) f1)) f2
/-- a method that has begun -/
theorem cStarted {W : aW} {o k0 d n : Nat} {A : Nat → List Nat} {s0 : zS} {E : eE} (ho : o < aN W) (hE : cEv W o A k0 s0 d n E) (hP : ∀ c sl ix x e, eOk W o e → ePo W o A e (E c sl ix x e)) (l : List Nat) (hl : l.length ≤ 1) (c sl ix : Nat) (f k x : Int32) (e : eT) (F : List cFm) (s s1 : zS) (hr : ¬ 200 ≤ e.2.1) (hok : eOk W o e) (hs : sl < 16) (hix : ix ≤ 32) (hc4 : c = 4 → ix ≤ (aO W o).length) (hcA : c ≠ 4 → cA W s0 A) (hc5 : c ≤ 5) (hfu : 201 + (if c = 3 then 1 else 0) ≤ n + 1 + e.2.1) (hFl : F.length ≤ e.2.1 + (if c = 3 then 0 else 1)) (ht : zcall zMs skX (d + 8) 34 [.inr (.inr 1)] s = some (some (.inl 1), s1)) (hQ : cQ W o k0 s0 s1 (e.1, e.2.1 + 1, e.2.2 ++ l)) (hF : cF s1 F) (hR : uRn s1 c sl ix f k x) : cR W o k0 s0 d F s e 0 0 (eRun E W o l c sl ix f k x e) := by
  unfold eRun
  rw [if_neg hr]
  obtain ⟨h1, h2, h3⟩ := hok
  have hok' : eOk W o (e.1, e.2.1 + 1, e.2.2 ++ l) := ⟨h1, (by show e.2.1 + 1 ≤ 200; omega), (by show (e.2.2 ++ l).length ≤ e.2.1 + 1; rw [List.length_append]; omega)⟩
  refine cR_stepRan ht rfl (cDo ho hE hP c sl ix f k x _ F s1 hok' hs hix hc4 hcA hc5 ?_ ?_ hQ hF hR)
  · show 201 + _ ≤ n + (e.2.1 + 1)
    omega
  · show F.length + 1 ≤ e.2.1 + 1 + _
    omega
theorem eOk_len {W : aW} {o : Nat} {e : eT} (h : eOk W o e) : e.2.2.length ≤ 200 := Nat.le_trans h.2.2 h.2.1
/-- a way that is come to -/
theorem cWay {W : aW} {o k0 d n : Nat} {A : Nat → List Nat} {s0 : zS} {E : eE} (ho : o < aN W) (hk0 : k0 ≤ 1000) (hE : cEv W o A k0 s0 d n E) (hP : ∀ c sl ix x e, eOk W o e → ePo W o A e (E c sl ix x e)) (hA : cA W s0 A) (c sl ix : Nat) (x : Int32) (e : eT) (F : List cFm) (s : zS) (hok : eOk W o e) (hs : sl < 16) (hc : c < 4) (hix : ix < (A c).length) (hfu : 201 + (if c = 3 then 1 else 0) ≤ n + 1 + e.2.1) (hFl : F.length ≤ e.2.1 + (if c = 3 then 0 else 1)) (hQ : cQ W o k0 s0 s e) (hF : cF s F) (hC : uCm s c sl ix x) : cR W o k0 s0 d F s e 0 4 (eWay E W o c sl ix ((A c).getD ix 0) x e) := by
  obtain ⟨h6, h8, h9, h10, h5⟩ := hC
  obtain ⟨a1, a2, a3⟩ := hA.1 c hc
  have hg : (A c)[ix]? = some (A c)[ix] := List.getElem?_eq_getElem hix
  have hgd : (A c).getD ix 0 = (A c)[ix] := by rw [List.getD_eq_getElem?_getD, hg]; rfl
  obtain ⟨-, hw⟩ := a3 ix _ hg
  rw [hgd]
  generalize (A c)[ix] = w at hg hw
  have hL := eOk_len hok
  have h13 : zg s 13 c = nI (A c).length := (cQ_13 hQ c).trans a1
  have hwa := sX_wayAt (d + 5) hA (cQ_14 hQ) hc hg
  have hX := hQ.1
  have h84 : ¬ zg s 1 8 = 4 := by
    rw [h8]
    exact fun h => by have := (nI_i3 (by omega) 4 (by omega)).mp h; omega
  have hcw : ∀ s1, zcall zMs skX (d + 6) 39 [.inr (.inr 1), .inl (nI w)] s = some (none, s1) → zcall zMs skX (d + 7) 38 [.inr (.inr 1)] s = some (none, s1) := by
    intro s1 h1
    rw [aX_U_comeToWay]
    unfold bX_U_comeToWay_0
    rw [h8, if_neg (show ¬ nI c = (5 : Int32) from fun h => by have := (nI_i3 (by omega) 5 (by omega)).mp h; omega), zin_nI hc (by decide), nI_clamp (by omega), h13, h10, if_neg (nI_ge hix (by omega)), hwa, zcI_some, h1, zcV_some]
  have hw' : w < aWn (eSlf W o e.1) := hw
  unfold eWay
  by_cases hr : 200 ≤ e.2.1
  · have hst := hcw _ (sU_wayStartEnd (d := d + 4) hok.1 hX hw' hc h8 h10 hQ.2.1 hr (by have := hok.2.1; omega))
    unfold eRun
    rw [if_pos hr]
    refine ⟨1, _, ⟨_, tS_way h6 h84 hst, rfl⟩, ?_, ?_, rfl, fun h => absurd h (show ¬ (2 : Nat) = 0 by decide), fun h => absurd rfl h⟩
    · show 1 + 10 * e.2.1 + 3 ≤ 10 * e.2.1 + (if (2 : Nat) = 2 then 4 else 0)
      rw [if_pos rfl]
      omega
    · refine cQ_fr (fun p h1 h2 i => ?_) (fun p i => ?_) ?_ ?_ ?_ hQ
      · rw [zgz_ne h1, uChn_o _ _ _ _ _ h1]
      · rw [zgl_zs, uChn_l]
      · rw [zgz_nj (by decide), uChn_1 _ _ _ _ (by decide) (by decide)]
      · rw [zgz_nj (by decide), uChn_1 _ _ _ _ (by decide) (by decide)]
      · rw [zgz_nj (by decide), uChn_1 _ _ _ _ (by decide) (by decide)]
  · have hst := hcw _ (sU_wayStart (d := d + 4) hok.1 hX hw' hc h8 h10 hQ.2.1 (by omega) hQ.2.2.1 (by omega))
    have e4 : aWy (eSlf W o e.1) w 4 = aWy W w 4 := rfl
    have e5 : aWy (eSlf W o e.1) w 5 = aWy W w 5 := rfl
    rw [e4, e5] at hst
    generalize hu : uChn (zs (uTr s (k0 + e.2.2.length) w) 1 3 (nI (k0 + e.2.2.length + 1))) c ix = u at hst
    have u1 : ∀ j, j ≠ 8 → j ≠ 10 → j ≠ 3 → zg u 1 j = zg s 1 j := by
      intro j j8 j10 j3
      rw [← hu, uChn_1 _ _ _ _ j8 j10, zgz_nj j3, uTr_o _ _ _ _ _ (by decide)]
    have uo : ∀ p i, p ≠ 1 → p ≠ 17 → zg u p i = zg s p i := by
      intro p i p1 p17
      rw [← hu, uChn_o _ _ _ _ _ p1, zgz_ne p1, uTr_o _ _ _ _ _ p17]
    have u17 : ∀ i, i < 30 → zg u 17 i = if i = k0 + e.2.2.length then nI w else zg s 17 i := by
      intro i hi
      rw [← hu, uChn_o _ _ _ _ _ (by decide), zgz_ne (by decide), uTr_17 _ _ _ _ hi]
    have u3 : zg u 1 3 = nI (k0 + e.2.2.length + 1) := by
      rw [← hu, uChn_1 _ _ _ _ (by decide) (by decide), zgz_eq]
    have u8 : zg u 1 8 = nI (eC c) := by
      rw [← hu]
      exact uChn_8 _ _ _ (by rw [zgz_nj (by decide), uTr_o _ _ _ _ _ (by decide), h8])
    have u10 : zg u 1 10 = nI (eI c ix) := by
      rw [← hu]
      exact uChn_10 _ _ _ (by rw [zgz_nj (by decide), uTr_o _ _ _ _ _ (by decide), h10])
    have ul : ∀ p i, zgl u p i = zgl s p i := by
      intro p i
      rw [← hu, uChn_l, zgl_zs, uTr_l]
    have so : ∀ p i, p ≠ 1 → zg (uStart u e.2.1 (aWy W w 4) (aWy W w 5)) p i = zg u p i := by
      intro p i hp
      unfold uStart
      rw [zgz_ne hp, zgz_ne hp, zgz_ne hp, zgz_ne hp]
    have s1 : ∀ j, j ≠ 4 → j ≠ 11 → j ≠ 12 → j ≠ 6 → zg (uStart u e.2.1 (aWy W w 4) (aWy W w 5)) 1 j = zg u 1 j := by
      intro j j4 j11 j12 j6
      unfold uStart
      rw [zgz_nj j6, zgz_nj j12, zgz_nj j11, zgz_nj j4]
    obtain ⟨q1, q2, q3, q4, q5, q6, q7⟩ := hQ
    have hQ' : cQ W o k0 s0 (uStart u e.2.1 (aWy W w 4) (aWy W w 5)) (e.1, e.2.1 + 1, e.2.2 ++ [w]) := by
      refine ⟨aX_fr (fun p h2 h11 i => by rw [so p i (by omega), uo p i (by omega) (by omega)]) q1, rfl, ?_, ?_, ?_, ?_, ?_⟩
      · rw [s1 3 (by decide) (by decide) (by decide) (by decide), u3]
        congr 1
        show _ = k0 + (e.2.2 ++ [w]).length
        rw [List.length_append]
        rfl
      · intro i hi
        rw [so 17 i (by decide), u17 i hi, q4 i hi]
        exact (tr_app e.2.2 w k0 i (zg s0 17 i)).symm
      · rw [s1 7 (by decide) (by decide) (by decide) (by decide), u1 7 (by decide) (by decide) (by decide), q5]
      · intro p b1 b2 b3 b4 b5 b6 i
        rw [so p i b1, uo p i b1 b5, q6 p b1 b2 b3 b4 b5 b6 i]
      · intro p i
        show zgl u p i = _
        rw [ul, q7]
    have hF' : cF (uStart u e.2.1 (aWy W w 4) (aWy W w 5)) F := by
      refine cF_fr (fun i => ?_) ?_ hF
      · rw [so 18 i (by decide), uo 18 i (by decide) (by decide)]
      · rw [s1 14 (by decide) (by decide) (by decide) (by decide), u1 14 (by decide) (by decide) (by decide)]
    have hR : uRn (uStart u e.2.1 (aWy W w 4) (aWy W w 5)) (eC c) sl (eI c ix) (aWy W w 4) (aWy W w 5) x := by
      refine ⟨rfl, ?_, ?_, ?_, ?_, rfl, rfl⟩
      · rw [s1 8 (by decide) (by decide) (by decide) (by decide), u8]
      · rw [s1 9 (by decide) (by decide) (by decide) (by decide), u1 9 (by decide) (by decide) (by decide), h9]
      · rw [s1 10 (by decide) (by decide) (by decide) (by decide), u10]
      · rw [s1 5 (by decide) (by decide) (by decide) (by decide), u1 5 (by decide) (by decide) (by decide), h5]
    refine cR_mono 0 4 (cStarted ho hE hP [w] (by simp) (eC c) sl (eI c ix) _ _ x e F s _ hr hok hs ?_ ?_ (fun _ => hA) ?_ ?_ ?_ (tS_way h6 h84 hst) hQ' hF' hR) (by omega) (by omega)
    · unfold eI
      split <;> omega
    · unfold eC
      split <;> omega
    · unfold eC
      split <;> omega
    · rw [eC_3]
      exact hfu
    · rw [eC_3]
      exact hFl
theorem cCome {W : aW} {o k0 d : Nat} {A : Nat → List Nat} {s0 : zS} (ho : o < aN W) (hk0 : k0 ≤ 1000) : ∀ (n : Nat), cEv W o A k0 s0 d n (ev W o A n) := by
  intro n
  induction n with
  | zero =>
    intro c sl ix x e F s hpre
    obtain ⟨hok, -, -, -, -, -, hfu, -⟩ := hpre
    have := hok.2.1
    omega
  | succ n ih =>
    intro c sl ix x e F s hpre hQ hF hC
    have hP := ev_ok W o A n
    obtain ⟨hok, hs, hix, hc4, hcA, hc5, hfu, hFl⟩ := hpre
    have hC' := hC
    obtain ⟨h6, h8, h9, h10, h5⟩ := hC'
    have hevw : cA W s0 A → cEvW W o A k0 s0 d n (ev W o A n) := by
      intro hA c ix x e F s hc hlt hok hfu hFl hQ hF hC
      refine (ih c 0 ix x e F s ⟨hok, by omega, by have := (hA.1 c (by omega)).2.1; omega, fun h => by omega, fun _ => hA, by omega, ?_, ?_⟩ hQ hF hC).2 (by omega) hlt
      · rw [if_neg (by omega)]; omega
      · rw [if_neg (by omega)]; omega
    show cR W o k0 s0 d F s e 5 5 (if c = 4 then eSlot (ev W o A n) W o sl ix x e else if ix < (A c).length then eWay (ev W o A n) W o c sl ix ((A c).getD ix 0) x e else if c = 3 ∧ 0 < (A 0).length then eBef (ev W o A n) A x (A 1).length 0 e else (1, 0, e)) ∧ (c < 4 → ix < (A c).length → cR W o k0 s0 d F s e 0 4 (if c = 4 then eSlot (ev W o A n) W o sl ix x e else if ix < (A c).length then eWay (ev W o A n) W o c sl ix ((A c).getD ix 0) x e else if c = 3 ∧ 0 < (A 0).length then eBef (ev W o A n) A x (A 1).length 0 e else (1, 0, e)))
    by_cases c4 : c = 4
    · subst c4
      refine ⟨?_, fun h => absurd h (by decide)⟩
      rw [if_pos rfl]
      have hix' := hc4 rfl
      have h84 : zg s 1 8 = 4 := h8
      have hl : (aO (eSlf W o e.1) o) = aO W o := rfl
      have hlen := aWf_len hok.1 (show o < aN (eSlf W o e.1) from ho)
      rw [hl] at hlen
      unfold eSlot
      rcases aFst_cases (fun p => aHas (eSlf W o e.1) p sl) ((aO W o).drop ix) ix with ⟨hn1, -⟩ | ⟨i, p, hj, hhas, hj2, -⟩
      · have hef : eFst W o e.1 sl ix = -1 := hn1
        rw [hef, if_pos rfl]
        have hst := sU_slotNone (W := eSlf W o e.1) (d := d + 4) hok.1 hQ.1 ho hs hix' hQ.2.2.2.2.1 h9 h10 hn1
        exact cR_mono 5 5 (cR_step (tS_slot h6 h84 hst) (cR_done 1 0 3 3 (u14_Q 6 _ (by decide) (by decide) (by decide) hQ) rfl (fun h => absurd h (by decide)) (fun _ => u1_F 6 _ (by decide) hF) (by omega) (by omega))) (by omega) (by omega)
      · have hef : eFst W o e.1 sl ix = nI (ix + i) := hj2
        rw [List.getElem?_drop] at hj
        have hjl := (List.getElem?_eq_some_iff.mp hj).1
        have hat : eAt W o (nI (ix + i)) = p := by
          unfold eAt
          rw [nI_clamp (by omega), List.getD_eq_getElem?_getD, hj]
          rfl
        have hp : p < aN (eSlf W o e.1) := aWf_mem hok.1 (show o < aN (eSlf W o e.1) from ho) (List.mem_of_getElem? hj)
        have htag := aWf_tag hok.1 hp hs
        have hne : (aS (eSlf W o e.1) p sl).1 ≠ 0 := by
          have : aHas (eSlf W o e.1) p sl = true := hhas
          unfold aHas at this
          exact of_decide_eq_true this
        rw [hef, if_neg (nI_neg1 (by omega)), hat]
        by_cases ht1 : (aS (eSlf W o e.1) p sl).1 = 1
        · rw [if_pos ht1]
          have hst := sU_slotVal (W := eSlf W o e.1) (d := d + 4) hok.1 hQ.1 ho hs hix' hQ.2.2.2.2.1 h9 h10 hj2 hj ht1
          exact cR_mono 5 5 (cR_step (tS_slot h6 h84 hst) (cR_done 0 _ 3 3 (uGive_Q _ hQ) rfl (fun _ => rfl) (fun _ => uGive_F _ hF) (by omega) (by omega))) (by omega) (by omega)
        · rw [if_neg ht1, nI_clamp (by omega)]
          have ht2 : (aS (eSlf W o e.1) p sl).1 = 2 := by omega
          have h4' : zg (zs s 1 10 (nI (ix + i + 1))) 1 4 = nI e.2.1 := (zgz_nj (by decide)).trans hQ.2.1
          by_cases hr : 200 ≤ e.2.1
          · have hst := sU_slotMet (W := eSlf W o e.1) (d := d + 4) hok.1 hQ.1 ho hs hix' hQ.2.2.2.2.1 h9 h10 hj2 hj ht2 (sU_startEnd _ _ _ _ _ h4' hr (by have := hok.2.1; omega))
            unfold eRun
            rw [if_pos hr]
            exact cR_mono 5 5 (cR_step (tS_slot h6 h84 hst) (cR_done 2 0 3 3 (u14_Q 6 _ (by decide) (by decide) (by decide) (u14_Q 10 _ (by decide) (by decide) (by decide) hQ)) rfl (fun h => absurd h (by decide)) (fun h => absurd rfl h) (by omega) (by omega))) (by omega) (by omega)
          · have hst := sU_slotMet (W := eSlf W o e.1) (d := d + 4) hok.1 hQ.1 ho hs hix' hQ.2.2.2.2.1 h9 h10 hj2 hj ht2 (sU_start _ _ _ _ _ h4' (by omega))
            obtain ⟨q1, q2, q3, q4, q5, q6, q7⟩ := hQ
            refine cR_mono 5 5 (cStarted ho ih hP [] (by simp) 4 sl (ix + i + 1) _ _ x e F s _ hr hok hs (by omega) (fun _ => by omega) (fun h => absurd rfl h) (by decide) (by rw [if_neg (by decide)] at hfu ⊢; omega) hFl (tS_slot h6 h84 hst) ?_ ?_ ?_) (by omega) (by omega)
            · rw [List.append_nil]
              refine ⟨aX_fr (fun p h2 h11 i => ?_) q1, rfl, q3, fun i hi => (q4 i hi), q5, fun p b1 b2 b3 b4 b5 b6 i => ?_, q7⟩
              · unfold uStart
                rw [zgz_ne (by omega), zgz_ne (by omega), zgz_ne (by omega), zgz_ne (by omega), zgz_ne (by omega)]
              · unfold uStart
                rw [zgz_ne b1, zgz_ne b1, zgz_ne b1, zgz_ne b1, zgz_ne b1, q6 p b1 b2 b3 b4 b5 b6 i]
            · exact u1_F 6 _ (by decide) (u1_F 12 _ (by decide) (u1_F 11 _ (by decide) (u1_F 4 _ (by decide) (u1_F 10 _ (by decide) hF))))
            · exact ⟨rfl, h8, h9, rfl, h5, rfl, rfl⟩
    · rw [if_neg c4]
      have hA := hcA c4
      have h84 : ¬ zg s 1 8 = 4 := by
        rw [h8]
        exact fun h => c4 ((nI_i3 (by omega) 4 (by omega)).mp h)
      by_cases hlt : ix < (A c).length
      · rw [if_pos hlt]
        have hc : c < 4 := by
          by_cases h5 : c = 5
          · rw [h5, hA.2] at hlt
            simp at hlt
          · omega
        have hw := cWay (d := d) ho hk0 ih hP hA c sl ix x e F s hok hs hc hlt (by omega) hFl hQ hF hC
        exact ⟨cR_mono 5 5 hw (by omega) (by omega), fun _ _ => hw⟩
      · rw [if_neg hlt]
        refine ⟨?_, fun _ h => absurd h hlt⟩
        by_cases c5 : c = 5
        · subst c5
          rw [if_neg (by omega)]
          exact cR_mono 5 5 (cR_step (tS_way h6 h84 (sU_way5 (d := d + 6) h8)) (cR_done 1 0 3 3 (u14_Q 6 _ (by decide) (by decide) (by decide) hQ) rfl (fun h => absurd h (by decide)) (fun _ => u1_F 6 _ (by decide) hF) (by omega) (by omega))) (by omega) (by omega)
        · have hc : c < 4 := by omega
          obtain ⟨a1, a2, a3⟩ := hA.1 c hc
          have a0 := hA.1 0 (by decide)
          have h13 : zg s 13 c = nI (A c).length := (cQ_13 hQ c).trans a1
          have h130 : zg s 13 0 = nI (A 0).length := (cQ_13 hQ 0).trans a0.1
          by_cases hcore : c = 3 ∧ 0 < (A 0).length
          · rw [if_pos hcore]
            obtain ⟨rfl, hA0⟩ := hcore
            rw [if_pos rfl] at hfu hFl
            have hD : F.length ≤ 200 := by have := hok.2.1; omega
            obtain ⟨s1, f1, f2⟩ := cBef hA (hevw hA) hP hA0 x F (A 1).length 0 e (uLeave s F.length (3, x, 1, nI 0)) (by omega) hok (by omega) (by omega) (uLeave_Q _ _ hQ) (uLeave_F _ hD hF)
            have hst := sU_wayCore (d := d + 5) h8 h10 h5 h13 a2 (by omega) hix h130 hA0 a0.2.1 hF.1 hD f1
            exact cR_mono 5 5 (cR_step (tS_way h6 h84 hst) f2) (by omega) (by omega)
          · rw [if_neg hcore]
            have hc3 : c ≠ 3 ∨ zg s 13 0 = 0 := by
              by_cases h3 : c = 3
              · right
                have : (A 0).length = 0 := by omega
                rw [h130, this, nI_0]
              · exact Or.inl h3
            exact cR_mono 5 5 (cR_step (tS_way h6 h84 (sU_wayFail (d := d + 6) h8 h10 hc hc3 h13 a2 (by omega) hix)) (cR_done 1 0 3 3 (u14_Q 6 _ (by decide) (by decide) (by decide) hQ) rfl (fun h => absurd h (by decide)) (fun _ => u1_F 6 _ (by decide) hF) (by omega) (by omega))) (by omega) (by omega)
