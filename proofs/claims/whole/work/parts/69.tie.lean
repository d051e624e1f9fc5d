/-! applies, tie -/
def fI (W : aW) (a b : Nat) (A : Nat → List Nat) (w : Nat) (s0 s : zS) : Prop := (∀ c, c < 4 → zg s 13 c = nI (A c).length ∧ (A c).length ≤ w ∧ ∀ (i x : Nat), (A c)[i]? = some x → zg s 14 (c * 32 + i) = nI x ∧ x < w ∧ zg s 15 x = wFr W a b x ∧ zg s 16 x = wNr W a x) ∧ A 5 = [] ∧ (∀ p, p ≠ 13 → p ≠ 14 → p ≠ 15 → p ≠ 16 → ∀ i, zg s p i = zg s0 p i) ∧ (∀ p i, zgl s p i = zgl s0 p i)
def gI (A : Nat → List Nat) (t0 t : zS) : Prop := (∀ c, c < 4 → zg t 23 c = nI (A c).length ∧ ∀ (i x : Nat), (A c)[i]? = some x → zg t 22 (32 * c + i) = nI x) ∧ (∀ p, p ≠ 22 → p ≠ 23 → ∀ i, zg t p i = zg t0 p i) ∧ (∀ p i, zgl t p i = zgl t0 p i)
theorem fI_X {W : aW} {a b w : Nat} {A : Nat → List Nat} {s0 s : zS} (h : fI W a b A w s0 s) (hX : aX 2 s0 W) : aX 2 s W := aX_fr (fun p h2 h11 i => h.2.2.1 p (by omega) (by omega) (by omega) (by omega) i) hX
theorem gI_M {W : aW} {A : Nat → List Nat} {t0 t : zS} (h : gI A t0 t) (hM : aMz t0 W) : aMz t W := aMz_fr (fun p h1 h10 i => h.2.1 p (by omega) (by omega) i) (h.2.1 0 (by decide) (by decide) 0) (h.2.1 0 (by decide) (by decide) 10) (h.2.1 0 (by decide) (by decide) 12) hM
def insA (W : aW) (a b w r : Nat) (A : Nat → List Nat) (R : List Nat) : Nat → List Nat := fun c => if c = r then R else A c
theorem fLoop {W : aW} {a b g : Nat} {s0 t0 : zS} (d e : Nat) (hf : aWf W) (ha : a < aN W) (hb : b < aN W) (hg8 : g < 8) (hX0 : aX 2 s0 W) (hM0 : aMz t0 W) : ∀ (f w : Nat) (A : Nat → List Nat) (N M : Nat) (s t : zS), w + f = aWn W → f < N → f * 40 + 5 ≤ M → fI W a b A w s0 s → gI A t0 t → ∃ A' s' t', zexec skX (zcall zMs skX (d + 4)) zT_A_find 0 N 6 [some (.inr (.inr 12)), some (.inr (.inr 2)), some (.inl (nI g)), some (.inl (nI a)), some (.inl (nI b)), some (.inl (nI w)), none, none] [] s = some (none, s') ∧ zexec skM (zcall zMs skM (e + 4)) zT_M_stands 0 M 14 [some (.inr (.inr 0)), some (.inl (nI g)), some (.inl (nI a)), some (.inl (nI b)), some (.inl (nI w)), none, none] [] t = some (none, t') ∧ fI W a b A' (aWn W) s0 s' ∧ gI A' t0 t' := by
  have hwn := hf.2.1
  have hn := hf.1
  intro f
  induction f with
  | zero =>
    intro w A N M s t hw hN hMM hI hJ
    obtain ⟨N, rfl⟩ : ∃ N', N = N' + 1 := ⟨N - 1, by omega⟩
    obtain ⟨M, rfl⟩ : ∃ M', M = M' + 1 := ⟨M - 1, by omega⟩
    have hw' : w = aWn W := by omega
    have h21 : zg s 2 1 = nI (aWn W) := (fI_X hI hX0).2.1
    have h010 : zg t 0 10 = nI (aWn W) := (gI_M hJ hM0).2.1
    rw [hw'] at hI
    refine ⟨A, s, t, ?_, ?_, hI, hJ⟩
    · rw [hX_A_find_6]
      unfold bX_A_find_6
      rw [h21, if_pos (nI_le (by omega) (by omega))]
    · rw [hM_M_stands_14]
      unfold bM_M_stands_14
      rw [h010, if_pos (nI_le (by omega) (by omega))]
  | succ f ih =>
    intro w A N M s t hw hN hMM hI hJ
    obtain ⟨N, rfl⟩ : ∃ N', N = N' + 1 := ⟨N - 1, by omega⟩
    have hw' : w < aWn W := by omega
    have hX := fI_X hI hX0
    have hM := gI_M hJ hM0
    have h21 : zg s 2 1 = nI (aWn W) := hX.2.1
    have h010 : zg t 0 10 = nI (aWn W) := hM.2.1
    obtain ⟨g', p, q, r, fn, hg', hp, hq, hr, -, d0, d1, d2, d3, -⟩ := hf.2.2.2.2 w hw'
    have eP : wP W w 1 = p := by unfold wP; rw [d1, nI_clamp (by omega)]
    have eQ : wP W w 2 = q := by unfold wP; rw [d2, nI_clamp (by omega)]
    have x0 := sX_wayPart (d + 3) w 0 s hf hX hw' (by decide)
    have x1 := sX_wayPart (d + 3) w 1 s hf hX hw' (by decide)
    have x2 := sX_wayPart (d + 3) w 2 s hf hX hw' (by decide)
    rw [nI_0] at x0
    rw [nIe1, d1] at x1
    rw [nIe2, d2] at x2
    rw [d0] at x0
    have xd1 := sX_distanceTo (d + 2) a p s hf hX ha (by omega)
    have xd2 := sX_distanceTo (d + 2) b q s hf hX hb (by omega)
    have y0 := sM_wayz (e + 3) w 0 hwn hM hw' (by decide)
    have y1 := sM_wayz (e + 3) w 1 hwn hM hw' (by decide)
    have y2 := sM_wayz (e + 3) w 2 hwn hM hw' (by decide)
    have y3 := sM_wayz (e + 3) w 3 hwn hM hw' (by decide)
    rw [nI_0, d0] at y0
    rw [nIe1, d1] at y1
    rw [nIe2, d2] at y2
    rw [show nI 3 = (3 : Int32) by decide, d3] at y3
    have yd1 := sM_place (e + 3) a p t hf (aM_ofz hf hM) ha (by omega)
    have yd2 := sM_place (e + 3) b q t hf (aM_ofz hf hM) hb (by omega)
    have eN : aFst (fun x => decide (x = p)) (aO W a) 0 = wNr W a w := by unfold wNr; rw [eP]
    have eS : aFst (fun x => decide (x = q)) (aO W b) 0 = wNs W b w := by unfold wNs; rw [eQ]
    rw [eN] at xd1 yd1
    rw [eS] at xd2 yd2
    have hskip : fI W a b A (w + 1) s0 s := by
      refine ⟨fun c hc => ?_, hI.2.1, hI.2.2.1, hI.2.2.2⟩
      obtain ⟨a1, a2, a3⟩ := hI.1 c hc
      refine ⟨a1, by omega, fun i x hx => ?_⟩
      obtain ⟨b1, b2, b3⟩ := a3 i x hx
      exact ⟨b1, by omega, b3⟩
    obtain ⟨M, rfl⟩ : ∃ M', M = M' + 1 := ⟨M - 1, by omega⟩
    have hge : ¬ nI (aWn W) ≤ nI w := nI_ge hw' (by omega)
    by_cases h1 : g' = g
    · subst h1
      by_cases h2 : wNr W a w = -1
      · obtain ⟨A', s', t', g1, g2, g3, g4⟩ := ih (w + 1) A N M s t (by omega) (by omega) (by omega) hskip hJ
        refine ⟨A', s', t', ?_, ?_, g3, g4⟩
        · rw [hX_A_find_6]
          unfold bX_A_find_6
          rw [h21, if_neg hge, x1, zcI_some, xd1, zcI_some, x2, zcI_some, xd2, zcI_some, x0, zcI_some, if_neg (show ¬ ¬ nI g' = nI g' from fun c => c rfl), if_pos h2, nI_1]
          exact g1
        · rw [hM_M_stands_14]
          unfold bM_M_stands_14
          rw [h010, if_neg hge, y0, zcI_some, if_neg (show ¬ ¬ nI g' = nI g' from fun c => c rfl), y1, zcI_some, yd1, zcI_some, if_pos h2, nI_1]
          exact g2
      · by_cases h3 : wNs W b w = -1
        · obtain ⟨A', s', t', g1, g2, g3, g4⟩ := ih (w + 1) A N M s t (by omega) (by omega) (by omega) hskip hJ
          refine ⟨A', s', t', ?_, ?_, g3, g4⟩
          · rw [hX_A_find_6]
            unfold bX_A_find_6
            rw [h21, if_neg hge, x1, zcI_some, xd1, zcI_some, x2, zcI_some, xd2, zcI_some, x0, zcI_some, if_neg (show ¬ ¬ nI g' = nI g' from fun c => c rfl), if_neg h2, if_pos h3, nI_1]
            exact g1
          · rw [hM_M_stands_14]
            unfold bM_M_stands_14
            rw [h010, if_neg hge, y0, zcI_some, if_neg (show ¬ ¬ nI g' = nI g' from fun c => c rfl), y1, zcI_some, yd1, zcI_some, if_neg h2, y2, zcI_some, yd2, zcI_some, if_neg (show ¬ ¬ wNs W b w = -1 from fun c => c h3), nI_1]
            exact g2
        · -- it applies
          obtain ⟨a1, a2, a3⟩ := hI.1 r hr
          obtain ⟨b1, b2⟩ := hJ.1 r hr
          have hs2 : ∀ p i, p ≠ 15 → p ≠ 16 → zg (zs (zs s 15 w (wNr W a w + wNs W b w)) 16 w (wNr W a w)) p i = zg s p i := fun p i h15 h16 => by rw [zgz_ne h16, zgz_ne h15]
          have h15 : ∀ i, zg (zs (zs s 15 w (wNr W a w + wNs W b w)) 16 w (wNr W a w)) 15 i = if i = w then wFr W a b w else zg s 15 i := fun i => by rw [zgz_ne (by decide), zg_zs, if_pos rfl]; rfl
          have h16 : ∀ i, zg (zs (zs s 15 w (wNr W a w + wNs W b w)) 16 w (wNr W a w)) 16 i = if i = w then wNr W a w else zg s 16 i := fun i => by rw [zg_zs, if_pos rfl, zgz_ne (by decide)]
          have hsl : ∀ p i, zgl (zs (zs s 15 w (wNr W a w + wNs W b w)) 16 w (wNr W a w)) p i = zgl s p i := fun _ _ => rfl
          generalize hs2e : zs (zs s 15 w (wNr W a w + wNs W b w)) 16 w (wNr W a w) = s2 at hs2 h15 h16 hsl
          have hX2 : aX 2 s2 W := aX_fr (fun p p2 p11 i => hs2 p i (by omega) (by omega)) hX
          have x3 := sX_wayPart (d + 3) w 3 s2 hf hX2 hw' (by decide)
          rw [show nI 3 = (3 : Int32) by decide, d3] at x3
          have hR32 : (A r).length < 32 := by omega
          have hh : hole (zg s2 14) (r * 32) (A r) (A r).length := by
            refine ⟨fun j x hj hx => ?_, fun j x hj hx => ?_⟩
            · rw [hs2 14 _ (by decide) (by decide)]
              exact (a3 j x hx).1
            · have := (List.getElem?_eq_some_iff.mp hx).1
              omega
          have hh2 : hole (zg t 22) (32 * r) (A r) (A r).length := by
            refine ⟨fun j x hj hx => b2 j x hx, fun j x hj hx => ?_⟩
            have := (List.getElem?_eq_some_iff.mp hx).1
            omega
          obtain ⟨s3, c1, c2, c3, c4, c5, c6⟩ := sX_ins (W := W) (a := a) (b := b) (d + 2) hr (show w < 32 by omega) hR32 (A r).length 19999 s2 (Nat.le_refl _) (by omega) hh ((hs2 13 r (by decide) (by decide)).trans a1) (by rw [h15, if_pos rfl]) (by rw [h16, if_pos rfl]) (fun j x hx => by
            obtain ⟨-, e2, e3, e4⟩ := a3 j x hx
            refine ⟨by omega, ?_, ?_⟩
            · rw [h15, if_neg (by omega)]; exact e3
            · rw [h16, if_neg (by omega)]; exact e4)
          have hM0' : ∃ M0, M = M0 + (A r).length + 1 ∧ f * 40 + 5 ≤ M0 := ⟨M - (A r).length - 1, by omega, by omega⟩
          obtain ⟨M0, hMe, hM0f⟩ := hM0'
          obtain ⟨t3, e1, e2, e3, e4, e5, e6⟩ := sM_ins (nI g') (e + 1) hf ha hb hw' hr hR32 (fun j x hx => (a3 j x hx).2.1) (A r).length M0 t hM (Nat.le_refl _) hh2 b1
          have hle := insAt_le (W := W) (a := a) (b := b) (w := w) (R := A r) (A r).length
          have hA' : fI W a b (insA W a b w r A (insL (A r) w (insAt W a b w (A r) (A r).length))) (w + 1) s0 s3 := by
            refine ⟨fun c hc => ?_, ?_, fun p p13 p14 p15 p16 i => ?_, fun p i => ?_⟩
            · unfold insA
              by_cases hcr : c = r
              · subst hcr
                rw [if_pos rfl]
                refine ⟨by rw [c3, if_pos rfl, insL_len hle], by rw [insL_len hle]; omega, fun i x hx => ⟨c2 i x hx, ?_, ?_, ?_⟩⟩
                · rcases insL_mem hle hx with h | ⟨j', h⟩
                  · omega
                  · have := (a3 j' x h).2.1; omega
                · rw [c4 15 _ (by decide) (by decide), h15]
                  rcases insL_mem hle hx with h | ⟨j', h⟩
                  · rw [if_pos h, h]
                  · obtain ⟨-, k2, k3, -⟩ := a3 j' x h
                    rw [if_neg (by omega)]; exact k3
                · rw [c4 16 _ (by decide) (by decide), h16]
                  rcases insL_mem hle hx with h | ⟨j', h⟩
                  · rw [if_pos h, h]
                  · obtain ⟨-, k2, -, k4⟩ := a3 j' x h
                    rw [if_neg (by omega)]; exact k4
              · rw [if_neg hcr]
                obtain ⟨f1, f2, f3⟩ := hI.1 c hc
                refine ⟨by rw [c3, if_neg hcr, hs2 13 c (by decide) (by decide)]; exact f1, by omega, fun i x hx => ?_⟩
                have hil := (List.getElem?_eq_some_iff.mp hx).1
                obtain ⟨k1, k2, k3, k4⟩ := f3 i x hx
                refine ⟨?_, by omega, ?_, ?_⟩
                · rw [c5 _ (by omega), hs2 14 _ (by decide) (by decide)]; exact k1
                · rw [c4 15 _ (by decide) (by decide), h15, if_neg (by omega)]; exact k3
                · rw [c4 16 _ (by decide) (by decide), h16, if_neg (by omega)]; exact k4
            · unfold insA
              rw [if_neg (by omega)]
              exact hI.2.1
            · rw [c4 p i p13 p14, hs2 p i p15 p16, hI.2.2.1 p p13 p14 p15 p16 i]
            · rw [c6, hsl, hI.2.2.2 p i]
          have hB' : gI (insA W a b w r A (insL (A r) w (insAt W a b w (A r) (A r).length))) t0 t3 := by
            refine ⟨fun c hc => ?_, fun p p22 p23 i => ?_, fun p i => ?_⟩
            · unfold insA
              by_cases hcr : c = r
              · subst hcr
                rw [if_pos rfl]
                exact ⟨by rw [e3, if_pos rfl, insL_len hle], e2⟩
              · rw [if_neg hcr]
                obtain ⟨f1, f2⟩ := hJ.1 c hc
                refine ⟨by rw [e3, if_neg hcr]; exact f1, fun i x hx => ?_⟩
                have hil := (List.getElem?_eq_some_iff.mp hx).1
                have := (hI.1 c hc).2.1
                rw [e5 _ (by omega)]
                exact f2 i x hx
            · rw [e4 p i p22 p23, hJ.2.1 p p22 p23 i]
            · rw [e6, hJ.2.2 p i]
          obtain ⟨A', s', t', g1, g2, g3, g4⟩ := ih (w + 1) _ N (M0 + insAt W a b w (A r) (A r).length) s3 t3 (by omega) (by omega) (by omega) hA' hB'
          refine ⟨A', s', t', ?_, ?_, g3, g4⟩
          · rw [hX_A_find_6]
            unfold bX_A_find_6
            rw [h21, if_neg hge, x1, zcI_some, xd1, zcI_some, x2, zcI_some, xd2, zcI_some, x0, zcI_some, if_neg (show ¬ ¬ nI g' = nI g' from fun c => c rfl), if_neg h2, if_neg h3, zin_nI (show w < 32 by omega) (by decide), nI_clamp (show w < 2 ^ 31 by omega), zin_nI (show w < 32 by omega) (by decide)]
            dsimp only
            rw [hs2e, x3, zcI_some, aX_A_insert]
            unfold bX_A_insert_0
            rw [zin_nI hr (by decide), nI_clamp (show r < 2 ^ 31 by omega), nmul32, hs2 13 r (by decide) (by decide), a1, c1, zcV_some, nI_1]
            exact g1
          · rw [hM_M_stands_14]
            unfold bM_M_stands_14
            rw [h010, if_neg hge, y0, zcI_some, if_neg (show ¬ ¬ nI g' = nI g' from fun c => c rfl), y1, zcI_some, yd1, zcI_some, if_neg h2, y2, zcI_some, yd2, zcI_some, if_pos h3, y3, zcI_some, zin_nI hr (by decide), nI_clamp (show r < 2 ^ 31 by omega), b1, hMe, e1]
            exact g2
    · have hne : ¬ nI g' = nI g := fun c => h1 ((nI_i3 (by omega) g (by omega)).mp c)
      obtain ⟨A', s', t', g1, g2, g3, g4⟩ := ih (w + 1) A N M s t (by omega) (by omega) (by omega) hskip hJ
      refine ⟨A', s', t', ?_, ?_, g3, g4⟩
      · rw [hX_A_find_6]
        unfold bX_A_find_6
        rw [h21, if_neg hge, x1, zcI_some, xd1, zcI_some, x2, zcI_some, xd2, zcI_some, x0, zcI_some, if_pos hne, nI_1]
        exact g1
      · rw [hM_M_stands_14]
        unfold bM_M_stands_14
        rw [h010, if_neg hge, y0, zcI_some, if_pos hne, nI_1]
        exact g2
theorem sX_fill13 (C : Nat → List zV → zS → zR) : ∀ (f j N : Nat) (s : zS), j + f = 4 → f < N → ∃ s', zexec skX C zT_J_fill2 0 N 5 [some (.inr (.inr 13)), some (.inl 0), some (.inl (nI j)), some (.inl (nI 4))] [] s = some (none, s') ∧ (∀ i, zg s' 13 i = if j ≤ i ∧ i < 4 then 0 else zg s 13 i) ∧ (∀ p i, p ≠ 13 → zg s' p i = zg s p i) ∧ (∀ p i, zgl s' p i = zgl s p i) := by
  intro f
  induction f with
  | zero =>
    intro j N s hj hN
    obtain ⟨N, rfl⟩ : ∃ N', N = N' + 1 := ⟨N - 1, by omega⟩
    refine ⟨s, ?_, fun i => by rw [if_neg (by omega)], fun _ _ _ => rfl, fun _ _ => rfl⟩
    rw [hX_J_fill2_13_5]
    unfold bX_J_fill2_13_5
    rw [if_pos (nI_le (by omega) (by omega))]
  | succ f ih =>
    intro j N s hj hN
    obtain ⟨N, rfl⟩ : ∃ N', N = N' + 1 := ⟨N - 1, by omega⟩
    obtain ⟨s', g1, g2, g3, g4⟩ := ih (j + 1) N (zs s 13 j 0) (by omega) (by omega)
    refine ⟨s', ?_, fun i => ?_, fun p i hp => (g3 p i hp).trans (zgz_ne hp), g4⟩
    · rw [hX_J_fill2_13_5]
      unfold bX_J_fill2_13_5
      rw [if_neg (nI_ge (show j < 4 by omega) (by omega)), zin_nI (show j < 4 by omega) (by decide), nI_clamp (by omega), nI_1]
      exact g1
    · rw [g2, zg_zs, if_pos rfl]
      by_cases hi : i = j
      · rw [if_neg (by omega), if_pos hi, if_pos (by omega)]
      · rw [if_neg hi]
        by_cases hr : j + 1 ≤ i ∧ i < 4
        · rw [if_pos hr, if_pos (by omega)]
        · rw [if_neg hr, if_neg (by omega)]
theorem sM_zero23 (C : Nat → List zV → zS → zR) (x1 x2 x3 : Int32) : ∀ (f j N : Nat) (t : zS), j + f = 4 → ∃ t', zexec skM C zT_M_stands 0 (N + f + 1) 2 [some (.inr (.inr 0)), some (.inl x1), some (.inl x2), some (.inl x3), some (.inl (nI j)), none, none] [] t = zexec skM C zT_M_stands 0 N 14 [some (.inr (.inr 0)), some (.inl x1), some (.inl x2), some (.inl x3), some (.inl (nI 0)), none, none] [] t' ∧ (∀ i, zg t' 23 i = if j ≤ i ∧ i < 4 then 0 else zg t 23 i) ∧ (∀ p i, p ≠ 23 → zg t' p i = zg t p i) ∧ (∀ p i, zgl t' p i = zgl t p i) := by
  intro f
  induction f with
  | zero =>
    intro j N t hj
    refine ⟨t, ?_, fun i => by rw [if_neg (by omega)], fun _ _ _ => rfl, fun _ _ => rfl⟩
    rw [hM_M_stands_2]
    unfold bM_M_stands_2
    rw [if_pos (show (4 : Int32) ≤ nI j from nI_le (show 4 ≤ j by omega) (by omega)), nI_0]
  | succ f ih =>
    intro j N t hj
    obtain ⟨t', g1, g2, g3, g4⟩ := ih (j + 1) N (zs t 23 j 0) (by omega)
    refine ⟨t', ?_, fun i => ?_, fun p i hp => (g3 p i hp).trans (zgz_ne hp), g4⟩
    · rw [show N + (f + 1) + 1 = (N + f + 1) + 1 by omega, hM_M_stands_2]
      unfold bM_M_stands_2
      rw [if_neg (show ¬ (4 : Int32) ≤ nI j from nI_ge (show j < 4 by omega) (by decide)), zin_nI (show j < 4 by omega) (by decide), nI_clamp (by omega), nI_1]
      exact g1
    · rw [g2, zg_zs, if_pos rfl]
      by_cases hi : i = j
      · rw [if_neg (by omega), if_pos hi, if_pos (by omega)]
      · rw [if_neg hi]
        by_cases hr : j + 1 ≤ i ∧ i < 4
        · rw [if_pos hr, if_pos (by omega)]
        · rw [if_neg hr, if_neg (by omega)]
/-- WAYS that apply, on both sides -/
theorem aFind {W : aW} {a b g : Nat} {s t : zS} (d e : Nat) (hf : aWf W) (ha : a < aN W) (hb : b < aN W) (hg8 : g < 8) (hX : aX 2 s W) (hM : aMz t W) : ∃ A s' t', zcall zMs skX (d + 5) 0 [.inr (.inr 12), .inr (.inr 2), .inl (nI g), .inl (nI a), .inl (nI b)] s = some (none, s') ∧ zcall zMs skM (e + 5) 198 [.inr (.inr 0), .inl (nI g), .inl (nI a), .inl (nI b)] t = some (none, t') ∧ fI W a b A (aWn W) s s' ∧ gI A t t' := by
  have hwn := hf.2.1
  obtain ⟨s1, f1, f2, f3, f4⟩ := sX_fill13 (zcall zMs skX (d + 3)) 4 0 19999 s rfl (by omega)
  obtain ⟨t1, e1, e2, e3, e4⟩ := sM_zero23 (zcall zMs skM (e + 4)) (nI g) (nI a) (nI b) 4 0 19994 t rfl
  have hI : fI W a b (fun _ => []) 0 s s1 := by
    refine ⟨fun c hc => ⟨?_, Nat.le_refl _, fun i x hx => by simp at hx⟩, rfl, fun p p13 p14 p15 p16 i => f3 p i p13, f4⟩
    rw [f2, if_pos ⟨Nat.zero_le _, hc⟩]
    exact nI_0.symm
  have hJ : gI (fun _ => []) t t1 := by
    refine ⟨fun c hc => ⟨?_, fun i x hx => by simp at hx⟩, fun p p22 p23 i => e3 p i p23, e4⟩
    rw [e2, if_pos ⟨Nat.zero_le _, hc⟩]
    exact nI_0.symm
  obtain ⟨A, s', t', g1, g2, g3, g4⟩ := fLoop d e hf ha hb hg8 hX hM (aWn W) 0 (fun _ => []) 19999 19994 s1 t1 (by omega) (by omega) (by omega) hI hJ
  refine ⟨A, s', t', ?_, ?_, g3, g4⟩
  · rw [aX_A_find]
    unfold bX_A_find_0
    rw [aX_J_fill2_13]
    unfold bX_J_fill2_13_0
    rw [nI_0] at f1 g1
    have e4' : (Int32.ofNat 4) = nI 4 := rfl
    rw [e4', f1, zcV_some]
    exact g1
  · rw [aM_M_stands]
    unfold bM_M_stands_0
    rw [nI_0] at e1 g2
    rw [show (19999 : Nat) = 19994 + 4 + 1 from rfl, e1]
    exact g2
theorem aRel_sc {s t s' t' : zS} (h : aRel s t) (hs : ∀ p, p ≠ 13 → p ≠ 14 → p ≠ 15 → p ≠ 16 → ∀ i, zg s' p i = zg s p i) (hsl : ∀ p i, zgl s' p i = zgl s p i) (ht : ∀ p, p ≠ 22 → p ≠ 23 → ∀ i, zg t' p i = zg t p i) (htl : ∀ p i, zgl t' p i = zgl t p i) : aRel s' t' := by
  obtain ⟨W, hf, hX, hM, h4, h5, h6⟩ := h
  have hMz := aMz_of hf hM
  obtain ⟨-, -, r3, r4, k, hk, r5, r6, r7⟩ := id h5
  refine aRel_act (W := W) hf rfl (aX_fr (fun p h2 h11 i => hs p (by omega) (by omega) (by omega) (by omega) i) hX) (aMz_fr (fun p h1 h10 i => ht p (by omega) (by omega) i) (ht 0 (by decide) (by decide) _) (ht 0 (by decide) (by decide) _) (ht 0 (by decide) (by decide) _) hMz) (fun p hp i => hs p (by omega) (by omega) (by omega) (by omega) i) (hs 0 (by decide) (by decide) (by decide) (by decide) 7) (hs 0 (by decide) (by decide) (by decide) (by decide) 8) hsl (fun p hp i => ht p (by omega) (by omega) i) (ht 0 (by decide) (by decide) 16) (ht 0 (by decide) (by decide) 39) htl ?_ ?_ ⟨k, hk, ?_, ?_, ?_⟩ h4 h5 h6
  · rw [hs 0 (by decide) (by decide) (by decide) (by decide), ht 0 (by decide) (by decide), r3]
  · rw [hs 0 (by decide) (by decide) (by decide) (by decide), ht 0 (by decide) (by decide), r4]
  · rw [hs 1 (by decide) (by decide) (by decide) (by decide), r5]
  · rw [ht 0 (by decide) (by decide), r6]
  · intro i hi hi30
    rw [hs 17 (by decide) (by decide) (by decide) (by decide), ht 21 (by decide) (by decide), r7 i hi hi30]
theorem sim_applies (a1 a2 a3 a4 a5 : Int32) : zSim aRel 107 199 [.inl a1, .inl a2, .inl a3, .inl a4, .inl a5] := by
  intro s t h
  obtain ⟨d, hd⟩ := zDp_8
  rw [hd]
  obtain ⟨W, hf, hX, hM, -, -, -⟩ := id h
  have hn := hf.1
  have hMz := aMz_of hf hM
  by_cases h1 : zIn a1 8
  · by_cases h2 : zIn a2 (aN W)
    · by_cases h3 : zIn a3 (aN W)
      · by_cases h4 : zIn a4 4
        · obtain ⟨g, hg, rfl⟩ := zIn_ex h1 (by omega)
          obtain ⟨a, ha, rfl⟩ := zIn_ex h2 (by omega)
          obtain ⟨b, hb, rfl⟩ := zIn_ex h3 (by omega)
          obtain ⟨c, hc, rfl⟩ := zIn_ex h4 (by omega)
          obtain ⟨A, s', t', g1, g2, g3, g4⟩ := aFind (d + 2) (d + 2) hf ha hb hg hX hMz
          have hrel : aRel s' t' := aRel_sc h g3.2.2.1 g3.2.2.2 g4.2.1 g4.2.2
          obtain ⟨b1, b2, b3⟩ := g3.1 c hc
          obtain ⟨c1, c2⟩ := g4.1 c hc
          have hwn := hf.2.1
          by_cases h5 : a5 = -1
          · refine ⟨nI (A c).length, s', t', ?_, ?_, hrel⟩
            · rw [aX_X_applies]
              unfold bX_X_applies_0
              rw [sX_isGeneric, zcI_some, zBp_t h1, if_neg o1, sX_hasObject (n := aN W) _ _ s hX.1 hf.1, zcI_some, zBp_t h2, if_neg o1, sX_hasObject (n := aN W) _ _ s hX.1 hf.1, zcI_some, zBp_t h3, if_pos o1, sX_isSort, zcI_some, zBp_t h4, if_pos o1, g1, zcV_some, zin_nI hc (by decide), nI_clamp (by omega), if_neg (fun q => q h5), b1]
            · rw [aM_M_applies]
              unfold bM_M_applies_0
              rw [sM_isGeneric, zcI_some, zBp_t h1, if_neg o1, sM_isOne (n := aN W) _ _ t (aM_n hM) hf.1, zcI_some, zBp_t h2, if_neg o1, sM_isOne (n := aN W) _ _ t (aM_n hM) hf.1, zcI_some, zBp_t h3, if_pos o1, sM_in4, zcI_some, zBp_t h4, if_pos o1, g2, zcV_some, if_neg (fun q => q h5), zin_nI hc (by decide), nI_clamp (by omega), c1]
          · by_cases h6 : zIn a5 (A c).length
            · obtain ⟨i, hi, rfl⟩ := zIn_ex h6 (by omega)
              have hget : (A c)[i]? = some (A c)[i] := List.getElem?_eq_getElem hi
              refine ⟨nI (A c)[i], s', t', ?_, ?_, hrel⟩
              · rw [aX_X_applies]
                unfold bX_X_applies_0
                rw [sX_isGeneric, zcI_some, zBp_t h1, if_neg o1, sX_hasObject (n := aN W) _ _ s hX.1 hf.1, zcI_some, zBp_t h2, if_neg o1, sX_hasObject (n := aN W) _ _ s hX.1 hf.1, zcI_some, zBp_t h3, if_pos o1, sX_isSort, zcI_some, zBp_t h4, if_pos o1, g1, zcV_some, zin_nI hc (by decide), nI_clamp (show c < 2 ^ 31 by omega), if_pos h5, if_neg (nI_pos (by omega)), b1, if_neg (nI_ge hi (by omega)), aX_A_wayAt]
                unfold bX_A_wayAt_0
                rw [nmul32, nI_add, zin_nI (show c * 32 + i < 128 by omega) (by decide), nI_clamp (show c * 32 + i < 2 ^ 31 by omega), (b3 i _ hget).1, zcI_some]
              · rw [aM_M_applies]
                unfold bM_M_applies_0
                rw [sM_isGeneric, zcI_some, zBp_t h1, if_neg o1, sM_isOne (n := aN W) _ _ t (aM_n hM) hf.1, zcI_some, zBp_t h2, if_neg o1, sM_isOne (n := aN W) _ _ t (aM_n hM) hf.1, zcI_some, zBp_t h3, if_pos o1, sM_in4, zcI_some, zBp_t h4, if_pos o1, g2, zcV_some, if_pos h5, zin_nI hc (by decide), nI_clamp (show c < 2 ^ 31 by omega), c1, sM_lim _ _ t' (by omega), zcI_some, zBp_t h6, if_neg o1, nlit32', zin_nI (show 32 * c + i < 128 by omega) (by decide), nI_clamp (show 32 * c + i < 2 ^ 31 by omega), c2 i _ hget]
            · refine ⟨-1, s', t', ?_, ?_, hrel⟩
              · rw [aX_X_applies]
                unfold bX_X_applies_0
                rw [sX_isGeneric, zcI_some, zBp_t h1, if_neg o1, sX_hasObject (n := aN W) _ _ s hX.1 hf.1, zcI_some, zBp_t h2, if_neg o1, sX_hasObject (n := aN W) _ _ s hX.1 hf.1, zcI_some, zBp_t h3, if_pos o1, sX_isSort, zcI_some, zBp_t h4, if_pos o1, g1, zcV_some, zin_nI hc (by decide), nI_clamp (show c < 2 ^ 31 by omega), if_pos h5, b1]
                by_cases h7 : a5 < 0
                · rw [if_pos h7]
                · rw [if_neg h7, if_pos ((zIn_not (by omega) h6).resolve_left h7)]
              · rw [aM_M_applies]
                unfold bM_M_applies_0
                rw [sM_isGeneric, zcI_some, zBp_t h1, if_neg o1, sM_isOne (n := aN W) _ _ t (aM_n hM) hf.1, zcI_some, zBp_t h2, if_neg o1, sM_isOne (n := aN W) _ _ t (aM_n hM) hf.1, zcI_some, zBp_t h3, if_pos o1, sM_in4, zcI_some, zBp_t h4, if_pos o1, g2, zcV_some, if_pos h5, zin_nI hc (by decide), nI_clamp (show c < 2 ^ 31 by omega), c1, sM_lim _ _ t' (by omega), zcI_some, zBp_f h6, if_pos (show (0 : Int32) = 0 from rfl)]
        · refine ⟨-6 - 10, _, _, ?_, ?_, aRel_refuse 6 h⟩
          · rw [aX_X_applies]
            unfold bX_X_applies_0
            rw [sX_isGeneric, zcI_some, zBp_t h1, if_neg o1, sX_hasObject (n := aN W) _ _ s hX.1 hf.1, zcI_some, zBp_t h2, if_neg o1, sX_hasObject (n := aN W) _ _ s hX.1 hf.1, zcI_some, zBp_t h3, if_pos o1, sX_isSort, zcI_some, zBp_f h4, if_neg z0, sX_ten6, zcI_some]
          · rw [aM_M_applies]
            unfold bM_M_applies_0
            rw [sM_isGeneric, zcI_some, zBp_t h1, if_neg o1, sM_isOne (n := aN W) _ _ t (aM_n hM) hf.1, zcI_some, zBp_t h2, if_neg o1, sM_isOne (n := aN W) _ _ t (aM_n hM) hf.1, zcI_some, zBp_t h3, if_pos o1, sM_in4, zcI_some, zBp_f h4, if_neg z0, sM_ten6, zcI_some]
      · refine ⟨-1 - 10, _, _, ?_, ?_, aRel_refuse 1 h⟩
        · rw [aX_X_applies]
          unfold bX_X_applies_0
          rw [sX_isGeneric, zcI_some, zBp_t h1, if_neg o1, sX_hasObject (n := aN W) _ _ s hX.1 hf.1, zcI_some, zBp_t h2, if_neg o1, sX_hasObject (n := aN W) _ _ s hX.1 hf.1, zcI_some, zBp_f h3, if_neg z0, sX_ten1, zcI_some]
        · rw [aM_M_applies]
          unfold bM_M_applies_0
          rw [sM_isGeneric, zcI_some, zBp_t h1, if_neg o1, sM_isOne (n := aN W) _ _ t (aM_n hM) hf.1, zcI_some, zBp_t h2, if_neg o1, sM_isOne (n := aN W) _ _ t (aM_n hM) hf.1, zcI_some, zBp_f h3, if_neg z0, sM_ten1, zcI_some]
    · refine ⟨-1 - 10, _, _, ?_, ?_, aRel_refuse 1 h⟩
      · rw [aX_X_applies]
        unfold bX_X_applies_0
        rw [sX_isGeneric, zcI_some, zBp_t h1, if_neg o1, sX_hasObject (n := aN W) _ _ s hX.1 hf.1, zcI_some, zBp_f h2, if_pos (show (0 : Int32) = 0 from rfl), sX_ten1, zcI_some]
      · rw [aM_M_applies]
        unfold bM_M_applies_0
        rw [sM_isGeneric, zcI_some, zBp_t h1, if_neg o1, sM_isOne (n := aN W) _ _ t (aM_n hM) hf.1, zcI_some, zBp_f h2, if_pos (show (0 : Int32) = 0 from rfl), sM_ten1, zcI_some]
  · refine ⟨-1 - 10, _, _, ?_, ?_, aRel_refuse 1 h⟩
    · rw [aX_X_applies]
      unfold bX_X_applies_0
      rw [sX_isGeneric, zcI_some, zBp_f h1, if_pos (show (0 : Int32) = 0 from rfl), sX_ten1, zcI_some]
    · rw [aM_M_applies]
      unfold bM_M_applies_0
      rw [sM_isGeneric, zcI_some, zBp_f h1, if_pos (show (0 : Int32) = 0 from rfl), sM_ten1, zcI_some]
