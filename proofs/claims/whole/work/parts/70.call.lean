/-! tie, call -/
theorem sim_tie (a1 a2 a3 : Int32) : zSim aRel 108 200 [.inl a1, .inl a2, .inl a3] := by
  intro s t h
  obtain ⟨d, hd⟩ := zDp_8
  rw [hd]
  obtain ⟨W, hf, hX, hM, -, -, -⟩ := id h
  have hn := hf.1
  have hMz := aMz_of hf hM
  by_cases h1 : zIn a1 8
  · by_cases h2 : zIn a2 (aN W)
    · by_cases h3 : zIn a3 (aN W)
      · obtain ⟨g, hg, rfl⟩ := zIn_ex h1 (by omega)
        obtain ⟨a, ha, rfl⟩ := zIn_ex h2 (by omega)
        obtain ⟨b, hb, rfl⟩ := zIn_ex h3 (by omega)
        obtain ⟨A, s', t', g1, g2, g3, g4⟩ := aFind (d + 2) (d + 2) hf ha hb hg hX hMz
        have hrel : aRel s' t' := aRel_sc h g3.2.2.1 g3.2.2.2 g4.2.1 g4.2.2
        obtain ⟨b1, b2, b3⟩ := g3.1 0 (by decide)
        obtain ⟨c1, c2⟩ := g4.1 0 (by decide)
        have hwn := hf.2.1
        have hM' := gI_M g4 hMz
        by_cases h5 : (A 0).length ≤ 1
        · refine ⟨0, s', t', ?_, ?_, hrel⟩
          · rw [aX_X_tie]
            unfold bX_X_tie_0
            rw [sX_isGeneric, zcI_some, zBp_t h1, if_neg o1, sX_hasObject (n := aN W) _ _ s hX.1 hf.1, zcI_some, zBp_t h2, if_neg o1, sX_hasObject (n := aN W) _ _ s hX.1 hf.1, zcI_some, zBp_t h3, if_pos o1, g1, zcV_some, aX_A_isTied]
            unfold bX_A_isTied_0
            rw [b1, if_pos (show nI (A 0).length ≤ (1 : Int32) from nI_le (b := 1) h5 (by decide)), zbo_0, zcI_some, if_pos (show (0 : Int32) = 0 from rfl)]
          · rw [aM_M_tie]
            unfold bM_M_tie_0
            rw [sM_isGeneric, zcI_some, zBp_t h1, if_neg o1, sM_isOne (n := aN W) _ _ t (aM_n hM) hf.1, zcI_some, zBp_t h2, if_neg o1, sM_isOne (n := aN W) _ _ t (aM_n hM) hf.1, zcI_some, zBp_t h3, if_pos o1, g2, zcV_some, c1, if_pos (show nI (A 0).length ≤ (1 : Int32) from nI_le (b := 1) h5 (by decide))]
        · have hg0 : (A 0)[0]? = some (A 0)[0] := List.getElem?_eq_getElem (by omega)
          have hg1 : (A 0)[1]? = some (A 0)[1] := List.getElem?_eq_getElem (by omega)
          obtain ⟨p1, p2, p3, p4⟩ := b3 0 _ hg0
          obtain ⟨q1, q2, q3, q4⟩ := b3 1 _ hg1
          have r1 := c2 0 _ hg0
          have r2 := c2 1 _ hg1
          generalize (A 0)[0] = v0 at p1 p2 p3 p4 r1
          generalize (A 0)[1] = v1 at q1 q2 q3 q4 r2
          obtain ⟨x1, y1, z1, u1, w1, -, hp1, hq1, -, -, -, d1, d2, -, -⟩ := hf.2.2.2.2 v0 p2
          obtain ⟨x2, y2, z2, u2, w2, -, hp2, hq2, -, -, -, d3, d4, -, -⟩ := hf.2.2.2.2 v1 q2
          have f0 := sM_far (d + 5) t' hf hM' ha hb p2 hp1 hq1 d1 d2
          have f1 := sM_far (d + 5) t' hf hM' ha hb q2 hp2 hq2 d3 d4
          have p1' : zg s' 14 0 = nI v0 := p1
          have q1' : zg s' 14 1 = nI v1 := q1
          have r1' : zg t' 22 0 = nI v0 := r1
          have r2' : zg t' 22 1 = nI v1 := r2
          have w0 : ∀ e, zcall zMs skX (e + 1) 3 [.inr (.inr 12), .inl 0, .inl 0] s' = some (some (.inl (nI v0)), s') := by
            intro e
            rw [aX_A_wayAt]
            unfold bX_A_wayAt_0
            rw [show (0 : Int32) * 32 + 0 = nI 0 by decide, zin_nI (show 0 < 128 by omega) (by decide), nI_clamp (by omega), p1']
          have w1' : ∀ e, zcall zMs skX (e + 1) 3 [.inr (.inr 12), .inl 0, .inl 1] s' = some (some (.inl (nI v1)), s') := by
            intro e
            rw [aX_A_wayAt]
            unfold bX_A_wayAt_0
            rw [show (0 : Int32) * 32 + 1 = nI 1 by decide, zin_nI (show 1 < 128 by omega) (by decide), nI_clamp (by omega), q1']
          have hX2 : ∀ v : Int32, v = zBp (wFr W a b v0 = wFr W a b v1) → zcall zMs skX (d + 7) 4 [.inr (.inr 12)] s' = some (some (.inl v), s') := by
            intro v hv
            rw [aX_A_isTied]
            unfold bX_A_isTied_0
            rw [b1, if_neg (show ¬ nI (A 0).length ≤ (1 : Int32) from nI_ge (show 1 < (A 0).length by omega) (by omega)), w0, zcI_some, zin_nI (show v0 < 32 by omega) (by decide), w1', zcI_some, zin_nI (show v1 < 32 by omega) (by decide), nI_clamp (show v0 < 2 ^ 31 by omega), nI_clamp (show v1 < 2 ^ 31 by omega), p3, q3, hv]
            by_cases hq : wFr W a b v0 = wFr W a b v1
            · rw [if_neg (fun c => c hq), zbo_1, zBp_t hq]
            · rw [if_pos hq, zbo_0, zBp_f hq]
          by_cases hq : wFr W a b v0 = wFr W a b v1
          · refine ⟨1, s', t', ?_, ?_, hrel⟩
            · rw [aX_X_tie]
              unfold bX_X_tie_0
              rw [sX_isGeneric, zcI_some, zBp_t h1, if_neg o1, sX_hasObject (n := aN W) _ _ s hX.1 hf.1, zcI_some, zBp_t h2, if_neg o1, sX_hasObject (n := aN W) _ _ s hX.1 hf.1, zcI_some, zBp_t h3, if_pos o1, g1, zcV_some, hX2 1 (zBp_t hq).symm, zcI_some, if_neg o1]
            · rw [aM_M_tie]
              unfold bM_M_tie_0
              rw [sM_isGeneric, zcI_some, zBp_t h1, if_neg o1, sM_isOne (n := aN W) _ _ t (aM_n hM) hf.1, zcI_some, zBp_t h2, if_neg o1, sM_isOne (n := aN W) _ _ t (aM_n hM) hf.1, zcI_some, zBp_t h3, if_pos o1, g2, zcV_some, c1, if_neg (show ¬ nI (A 0).length ≤ (1 : Int32) from nI_ge (show 1 < (A 0).length by omega) (by omega)), r1', f0, zcI_some, r2', f1, zcI_some, if_neg (fun c => c hq)]
          · refine ⟨0, s', t', ?_, ?_, hrel⟩
            · rw [aX_X_tie]
              unfold bX_X_tie_0
              rw [sX_isGeneric, zcI_some, zBp_t h1, if_neg o1, sX_hasObject (n := aN W) _ _ s hX.1 hf.1, zcI_some, zBp_t h2, if_neg o1, sX_hasObject (n := aN W) _ _ s hX.1 hf.1, zcI_some, zBp_t h3, if_pos o1, g1, zcV_some, hX2 0 (zBp_f hq).symm, zcI_some, if_pos (show (0 : Int32) = 0 from rfl)]
            · rw [aM_M_tie]
              unfold bM_M_tie_0
              rw [sM_isGeneric, zcI_some, zBp_t h1, if_neg o1, sM_isOne (n := aN W) _ _ t (aM_n hM) hf.1, zcI_some, zBp_t h2, if_neg o1, sM_isOne (n := aN W) _ _ t (aM_n hM) hf.1, zcI_some, zBp_t h3, if_pos o1, g2, zcV_some, c1, if_neg (show ¬ nI (A 0).length ≤ (1 : Int32) from nI_ge (show 1 < (A 0).length by omega) (by omega)), r1', f0, zcI_some, r2', f1, zcI_some, if_pos hq]

      · refine ⟨-1, _, _, ?_, ?_, aRel_refuse 1 h⟩
        · rw [aX_X_tie]
          unfold bX_X_tie_0
          rw [sX_isGeneric, zcI_some, zBp_t h1, if_neg o1, sX_hasObject (n := aN W) _ _ s hX.1 hf.1, zcI_some, zBp_t h2, if_neg o1, sX_hasObject (n := aN W) _ _ s hX.1 hf.1, zcI_some, zBp_f h3, if_neg z0, sX_refuse1, zcI_some]
        · rw [aM_M_tie]
          unfold bM_M_tie_0
          rw [sM_isGeneric, zcI_some, zBp_t h1, if_neg o1, sM_isOne (n := aN W) _ _ t (aM_n hM) hf.1, zcI_some, zBp_t h2, if_neg o1, sM_isOne (n := aN W) _ _ t (aM_n hM) hf.1, zcI_some, zBp_f h3, if_neg z0, sM_no1, zcI_some]
    · refine ⟨-1, _, _, ?_, ?_, aRel_refuse 1 h⟩
      · rw [aX_X_tie]
        unfold bX_X_tie_0
        rw [sX_isGeneric, zcI_some, zBp_t h1, if_neg o1, sX_hasObject (n := aN W) _ _ s hX.1 hf.1, zcI_some, zBp_f h2, if_pos (show (0 : Int32) = 0 from rfl), sX_refuse1, zcI_some]
      · rw [aM_M_tie]
        unfold bM_M_tie_0
        rw [sM_isGeneric, zcI_some, zBp_t h1, if_neg o1, sM_isOne (n := aN W) _ _ t (aM_n hM) hf.1, zcI_some, zBp_f h2, if_pos (show (0 : Int32) = 0 from rfl), sM_no1, zcI_some]
  · refine ⟨-1, _, _, ?_, ?_, aRel_refuse 1 h⟩
    · rw [aX_X_tie]
      unfold bX_X_tie_0
      rw [sX_isGeneric, zcI_some, zBp_f h1, if_pos (show (0 : Int32) = 0 from rfl), sX_refuse1, zcI_some]
    · rw [aM_M_tie]
      unfold bM_M_tie_0
      rw [sM_isGeneric, zcI_some, zBp_f h1, if_pos (show (0 : Int32) = 0 from rfl), sM_no1, zcI_some]
theorem cTr (C : Nat → List zV → zS → zR) (k : Nat) (hk : k ≤ 1000) : ∀ (f j N : Nat) (t : zS), j + f = 30 → f < N → zg t 0 33 = nI k → ∃ t', zexec skM C zT_M_call 1 N 46 [some (.inr (.inr 0)), none, none, none, none, some (.inl (nI j))] [] t = some (some (.inl (zg t 0 28)), t') ∧ (∀ i, zg t' 21 i = if j ≤ i ∧ i < 30 ∧ i < k then zg t 20 i else zg t 21 i) ∧ (∀ p i, p ≠ 21 → zg t' p i = zg t p i) ∧ (∀ p i, zgl t' p i = zgl t p i) := by
  intro f
  induction f with
  | zero =>
    intro j N t hj hN hk2
    obtain ⟨N, rfl⟩ : ∃ N', N = N' + 1 := ⟨N - 1, by omega⟩
    refine ⟨t, ?_, fun i => by rw [if_neg (by omega)], fun _ _ _ => rfl, fun _ _ => rfl⟩
    rw [hM_M_call_46]
    unfold bM_M_call_46
    rw [if_pos (show (30 : Int32) ≤ nI j from nI_le (show 30 ≤ j by omega) (by omega))]
  | succ f ih =>
    intro j N t hj hN hk2
    obtain ⟨N, rfl⟩ : ∃ N', N = N' + 1 := ⟨N - 1, by omega⟩
    by_cases hc : k ≤ j
    · refine ⟨t, ?_, fun i => by rw [if_neg (by omega)], fun _ _ _ => rfl, fun _ _ => rfl⟩
      rw [hM_M_call_46]
      unfold bM_M_call_46
      rw [if_neg (show ¬ (30 : Int32) ≤ nI j from nI_ge (show j < 30 by omega) (by decide)), hk2, if_pos (nI_le hc (by omega))]
    · obtain ⟨t', g1, g2, g3, g4⟩ := ih (j + 1) N (zs t 21 j (zg t 20 j)) (by omega) (by omega) hk2
      refine ⟨t', ?_, fun i => ?_, fun p i hp => (g3 p i hp).trans (zgz_ne hp), g4⟩
      · rw [hM_M_call_46]
        unfold bM_M_call_46
        rw [if_neg (show ¬ (30 : Int32) ≤ nI j from nI_ge (show j < 30 by omega) (by decide)), hk2, if_neg (nI_ge (show j < k by omega) (by omega)), zin_nI (show j < 30 by omega) (by decide), zin_nI (show j < 30 by omega) (by decide), nI_clamp (by omega), nI_1]
        exact g1
      · rw [g2, zgz_ne (by decide), zg_zs, if_pos rfl]
        by_cases hi : i = j
        · rw [if_neg (by omega), if_pos hi, if_pos (by omega), hi]
        · rw [if_neg hi]
          by_cases hr : j + 1 ≤ i ∧ i < 30 ∧ i < k
          · rw [if_pos hr, if_pos (by omega)]
          · rw [if_neg hr, if_neg (by omega)]
theorem nIm1 : nI 0 - 1 = (-1 : Int32) := by decide
theorem sim_call (a1 a2 a3 a4 : Int32) : zSim aRel 109 201 [.inl a1, .inl a2, .inl a3, .inl a4] := by
  intro s t h
  obtain ⟨D, hd⟩ := zDp_620
  rw [hd]
  obtain ⟨W, hf, hX, hM, h4, h5, h6⟩ := id h
  have hn := hf.1
  have hMz := aMz_of hf hM
  by_cases h1 : zIn a1 8
  · by_cases h2 : zIn a2 (aN W)
    · by_cases h3 : zIn a3 (aN W)
      · obtain ⟨g, hg, rfl⟩ := zIn_ex h1 (by omega)
        obtain ⟨o, ho, rfl⟩ := zIn_ex h2 (by omega)
        obtain ⟨b, hb, rfl⟩ := zIn_ex h3 (by omega)
        have hX1 : aX 2 (zs s 1 4 0) W := aX_fr (fun p a b i => zgz_ne (by omega)) hX
        obtain ⟨A, s2, t2, g1, g2, g3, g4⟩ := aFind (d := D + 613) (e := D + 614) hf ho hb hg hX1 hMz
        have hwn := hf.2.1
        -- the class
        have u2 : ∀ p, p ≠ 1 → p ≠ 13 → p ≠ 14 → p ≠ 15 → p ≠ 16 → ∀ i, zg s2 p i = zg s p i := fun p p1 p13 p14 p15 p16 i => (g3.2.2.1 p p13 p14 p15 p16 i).trans (zgz_ne p1)
        have hX2 : aX 2 (uCome (zs s2 1 3 0) 3 0 0 a4) W := aX_fr (fun p p2 p11 i => by rw [uCome_o _ _ _ _ _ _ _ (by omega), zgz_ne (by omega), u2 p (by omega) (by omega) (by omega) (by omega) (by omega)]) hX
        have hA2 : cA W (uCome (zs s2 1 3 0) 3 0 0 a4) A := by
          refine ⟨fun c hc => ?_, g3.2.1⟩
          obtain ⟨a1, a2, a3⟩ := g3.1 c hc
          refine ⟨?_, by omega, fun i w hw => ?_⟩
          · rw [uCome_o _ _ _ _ _ _ _ (by decide), zgz_ne (by decide)]
            exact a1
          · obtain ⟨e1, e2, -⟩ := a3 i w hw
            rw [uCome_o _ _ _ _ _ _ _ (by decide), zgz_ne (by decide)]
            exact ⟨e1, e2⟩
        have h14 : zg (uCome (zs s2 1 3 0) 3 0 0 a4) 1 4 = nI 0 := by
          show zg s2 1 4 = nI 0
          rw [g3.2.2.1 1 (by decide) (by decide) (by decide) (by decide), zgz_eq, nI_0]
        obtain ⟨s3, k1, x1, x2, x3, x4, x5, x6, x7, x8, x9⟩ := cCarry (d := D + 609) (A := A) (c := 3) (sl := 0) (ix := 0) (k0 := 0) (r := 0) (x := a4) hf ho (by omega) hX2 h14 (by omega) (by exact nI_0.symm) (by omega) rfl (Or.inr ⟨rfl, hA2⟩) (uCm_mk a4 (by decide) (by decide) (by decide))
        -- the reference
        have hM2 : aMz (zs t2 0 29 0) W := aMz_fr (fun p a b i => zgz_ne (by omega)) rfl rfl rfl (gI_M g4 hMz)
        have hA3 : mA W (mBeg (zs t2 0 29 0) o) A := by
          refine ⟨fun c hc => ?_, g3.2.1⟩
          obtain ⟨a1, a2, a3⟩ := g3.1 c hc
          obtain ⟨c1, c2⟩ := g4.1 c hc
          refine ⟨?_, by omega, fun i w hw => ⟨?_, (a3 i w hw).2.1⟩⟩
          · rw [mBeg_o _ _ _ _ (by decide) (by decide), zgz_ne (by decide)]
            exact c1
          · rw [mBeg_o _ _ _ _ (by decide) (by decide), zgz_ne (by decide)]
            exact c2 i w hw
        have hok0 : eOk W o (aS W o, 0, []) := eOk_0 hf (by omega)
        obtain ⟨p1, p2, p3, -⟩ := ev_ok W o A 202 3 0 0 a4 _ hok0
        have hm := (mAll (A := A) (t0 := mBeg (zs t2 0 29 0) o) ho 202 (D + 619) (by omega)).1 3 0 0 a4 (-1) _ (mBeg (zs t2 0 29 0) o) ⟨hok0, by omega, by omega, fun h => absurd h (by decide), fun _ => ⟨hA3, rfl⟩, Or.inr (Or.inl rfl), by rw [if_pos rfl]; exact Nat.le_refl _⟩ (fun _ => nIm1.symm) (mBeg_Q hM2 (zgz_eq.trans nI_0.symm)) (mBeg_f _ o).2.1
        obtain ⟨v, t', e1, e28, e29, ev0, ⟨t3, e2, e3⟩, -⟩ := mFin hf hM2 hm p1 (D + 617)
        have hbg := sM_begins (D + 617) o (zs t2 0 29 0)
        rw [show nI (mo 3) = (1 : Int32) by decide, nI_0] at e1
        generalize ev W o A 202 3 0 0 a4 (aS W o, 0, []) = R at p1 p2 p3 k1 x1 x2 x3 x4 x5 e28 e29 ev0 e2 e3
        obtain ⟨y1, y2, y3, y4, y5, y6, y7, y8⟩ := e3
        have hL := eOk_len p2
        rw [Nat.zero_add] at x4
        obtain ⟨t5, z1, z2, z3, z4⟩ := cTr (zcall zMs skM (D + 619)) R.2.2.2.2.length (by omega) 30 0 19999 (zs (zs (zs t3 0 30 (if R.1 = 0 then R.2.1 else 0)) 0 31 (zg t3 0 29)) 0 32 (zg t3 0 33)) rfl (by omega) y4
        have t20 : ∀ p, p ≠ 0 → p ≠ 22 → p ≠ 23 → ∀ i, zg (zs t2 0 29 0) p i = zg t p i := fun p p0 p22 p23 i => (zgz_ne p0).trans (g4.2.1 p p22 p23 i)
        have t200 : ∀ i, i ≠ 29 → zg (zs t2 0 29 0) 0 i = zg t 0 i := fun i i29 => (zgz_nj i29).trans (g4.2.1 0 (by decide) (by decide) i)
        refine ⟨nI R.1, zs (zs s3 0 9 (zg s3 1 5)) 0 10 (zg s3 1 4), t5, ?_, ?_, ?_⟩
        · rw [aX_X_call]
          unfold bX_X_call_0
          rw [sX_isGeneric, zcI_some, zBp_t h1, if_neg o1, sX_hasObject (n := aN W) _ _ s hX.1 hf.1, zcI_some, zBp_t h2, if_neg o1, sX_hasObject (n := aN W) _ _ s hX.1 hf.1, zcI_some, zBp_t h3, if_pos o1, aX_U_beginAct]
          unfold bX_U_beginAct_0
          dsimp only
          rw [zcV_some, aX_U_callGeneric]
          unfold bX_U_callGeneric_0
          rw [g1, zcV_some]
          dsimp only
          rw [sU_come, zcV_some, k1, zcI_some, zcI_some]
        · rw [aM_M_call]
          unfold bM_M_call_0
          rw [sM_isGeneric, zcI_some, zBp_t h1, if_neg o1, sM_isOne (n := aN W) _ _ t (aM_n hM) hf.1, zcI_some, zBp_t h2, if_neg o1, sM_isOne (n := aN W) _ _ t (aM_n hM) hf.1, zcI_some, zBp_t h3, if_pos o1, g2, zcV_some]
          dsimp only
          rw [hbg, zcV_some, e1, zcI_some, e2, zcI_some]
          rw [nI_0] at z1
          refine z1.trans ?_
          show some (some (Sum.inl (zg t3 0 28)), t5) = _
          rw [y2]
        · refine aRel_act (W := W) (eFin_f hf p2) (eFin_n W o R) (aX_fr (fun p a b i => ?_) x1) (aMz_fr (fun p a b i => ?_) ?_ ?_ ?_ y1) ?_ ?_ ?_ ?_ ?_ ?_ ?_ ?_ ?_ ?_ ⟨R.2.2.2.2.length, by omega, ?_, ?_, ?_⟩ h4 h5 h6
          · rw [zgz_ne (by omega), zgz_ne (by omega)]
          · rw [z3 p i (by omega), zgz_ne (by omega), zgz_ne (by omega), zgz_ne (by omega)]
          · rw [z3 0 _ (by decide)]; rfl
          · rw [z3 0 _ (by decide)]; rfl
          · rw [z3 0 _ (by decide)]; rfl
          · intro p hp i
            rw [zgz_ne (by omega), zgz_ne (by omega), x8 p (by omega) (by omega) (by omega) (by omega) (by omega) (by omega) (by omega) (by omega) (by omega), uCome_o _ _ _ _ _ _ _ (by omega), zgz_ne (by omega), u2 p (by omega) (by omega) (by omega) (by omega) (by omega)]
          · rw [zgz_nj (by decide), zgz_nj (by decide), x8 0 (by decide) (by decide) (by decide) (by decide) (by decide) (by decide) (by decide) (by decide) (by decide), uCome_o _ _ _ _ _ _ _ (by decide), zgz_ne (by decide), u2 0 (by decide) (by decide) (by decide) (by decide) (by decide)]
          · rw [zgz_nj (by decide), zgz_nj (by decide), x8 0 (by decide) (by decide) (by decide) (by decide) (by decide) (by decide) (by decide) (by decide) (by decide), uCome_o _ _ _ _ _ _ _ (by decide), zgz_ne (by decide), u2 0 (by decide) (by decide) (by decide) (by decide) (by decide)]
          · intro p i
            exact (x9 p i).trans (g3.2.2.2 p i)
          · intro p hp i
            rw [z3 p i (by omega), zgz_ne (by omega), zgz_ne (by omega), zgz_ne (by omega), y6 p (by omega) (by omega) (by omega) (by omega) (by omega) (by omega) (by omega), t20 p (by omega) (by omega) (by omega)]
          · rw [z3 0 _ (by decide), zgz_nj (by decide), zgz_nj (by decide), zgz_nj (by decide), y7 16 (by decide) (by decide) (by decide) (by decide), t200 16 (by decide)]
          · rw [z3 0 _ (by decide), zgz_nj (by decide), zgz_nj (by decide), zgz_nj (by decide), y7 39 (by decide) (by decide) (by decide) (by decide), t200 39 (by decide)]
          · intro p i
            exact (z4 p i).trans ((y8 p i).trans (g4.2.2 p i))
          · rw [z3 0 _ (by decide), zgz_nj (by decide), zgz_eq, zgz_nj (by decide), zgz_nj (by decide), zgz_eq, x2]
          · rw [z3 0 _ (by decide), zgz_eq, zgz_nj (by decide), zgz_eq, x3, y3]
          · rw [zgz_ne (by decide), zgz_ne (by decide), x4]
          · rw [z3 0 _ (by decide), zgz_eq, y4]
          · intro i hi hi30
            rw [zgz_ne (by decide), zgz_ne (by decide), x5 i hi30, Nat.zero_add, if_pos ⟨Nat.zero_le _, hi⟩, Nat.sub_zero, z2 i, if_pos ⟨Nat.zero_le _, hi30, hi⟩, zgz_ne (by decide), zgz_ne (by decide), zgz_ne (by decide), y5 i hi30 hi]

      · refine ⟨-1, _, _, ?_, ?_, aRel_refuse 1 h⟩
        · rw [aX_X_call]
          unfold bX_X_call_0
          rw [sX_isGeneric, zcI_some, zBp_t h1, if_neg o1, sX_hasObject (n := aN W) _ _ s hX.1 hf.1, zcI_some, zBp_t h2, if_neg o1, sX_hasObject (n := aN W) _ _ s hX.1 hf.1, zcI_some, zBp_f h3, if_neg z0, sX_refuse1, zcI_some]
        · rw [aM_M_call]
          unfold bM_M_call_0
          rw [sM_isGeneric, zcI_some, zBp_t h1, if_neg o1, sM_isOne (n := aN W) _ _ t (aM_n hM) hf.1, zcI_some, zBp_t h2, if_neg o1, sM_isOne (n := aN W) _ _ t (aM_n hM) hf.1, zcI_some, zBp_f h3, if_neg z0, sM_no1, zcI_some]
    · refine ⟨-1, _, _, ?_, ?_, aRel_refuse 1 h⟩
      · rw [aX_X_call]
        unfold bX_X_call_0
        rw [sX_isGeneric, zcI_some, zBp_t h1, if_neg o1, sX_hasObject (n := aN W) _ _ s hX.1 hf.1, zcI_some, zBp_f h2, if_pos (show (0 : Int32) = 0 from rfl), sX_refuse1, zcI_some]
      · rw [aM_M_call]
        unfold bM_M_call_0
        rw [sM_isGeneric, zcI_some, zBp_t h1, if_neg o1, sM_isOne (n := aN W) _ _ t (aM_n hM) hf.1, zcI_some, zBp_f h2, if_pos (show (0 : Int32) = 0 from rfl), sM_no1, zcI_some]
  · refine ⟨-1, _, _, ?_, ?_, aRel_refuse 1 h⟩
    · rw [aX_X_call]
      unfold bX_X_call_0
      rw [sX_isGeneric, zcI_some, zBp_f h1, if_pos (show (0 : Int32) = 0 from rfl), sX_refuse1, zcI_some]
    · rw [aM_M_call]
      unfold bM_M_call_0
      rw [sM_isGeneric, zcI_some, zBp_f h1, if_pos (show (0 : Int32) = 0 from rfl), sM_no1, zcI_some]
