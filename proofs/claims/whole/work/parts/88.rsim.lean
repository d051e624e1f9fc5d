/-! READ: the sim -/
theorem sim_read (a1 : Int32) : zSim aRel 89 160 [.inl a1] := by
  intro s t h
  obtain ⟨d, hd⟩ := zDp_40
  rw [hd]
  obtain ⟨W, hf, hX, hM, h4, h5, h6⟩ := id h
  have hn := hf.1
  have hMz := aMz_of hf hM
  obtain ⟨v, w1, w2, w3⟩ := sXM_noRow (d + 37) a1 hn h4
  rcases w3 with w3 | ⟨rfl, k, r, m0, hk, rfl, hr, -, c1, -, -, -⟩
  · have hvn : ¬ v = 0 := nne0 v w3
    have hvn2 : ¬ 0 ≤ v := n0le v w3
    rcases w3 with rfl | rfl | rfl
    · refine ⟨-1, _, _, ?_, ?_, aRel_refuse 1 h⟩
      · rw [aX_X_read]
        unfold bX_X_read_0
        rw [w1, zcI_some, if_neg hvn, sX_refuse1, zcI_some]
      · rw [aM_M_read]
        unfold bM_M_read_0
        rw [w2, zcI_some, if_neg hvn2, sM_no1, zcI_some]
    · refine ⟨-2, _, _, ?_, ?_, aRel_refuse 2 h⟩
      · rw [aX_X_read]
        unfold bX_X_read_0
        rw [w1, zcI_some, if_neg hvn, sX_refuse2, zcI_some]
      · rw [aM_M_read]
        unfold bM_M_read_0
        rw [w2, zcI_some, if_neg hvn2, sM_no2, zcI_some]
    · refine ⟨-3, _, _, ?_, ?_, aRel_refuse 3 h⟩
      · rw [aX_X_read]
        unfold bX_X_read_0
        rw [w1, zcI_some, if_neg hvn, sX_refuse3, zcI_some]
      · rw [aM_M_read]
        unfold bM_M_read_0
        rw [w2, zcI_some, if_neg hvn2, sM_no3, zcI_some]
  · obtain ⟨m, hm, d1, d2, d3⟩ := aSh_rw hk hn hr h4 c1
    obtain ⟨sl, l1, l2, -, l4, l5⟩ := laX (k := k) (m := m) (d + 37) hk hm m 0 19999 (zs s 42 2 (nI m)) (by omega) (by omega) zgz_eq
    rw [nI_0] at l1
    have hsl : ∀ p i, p ≠ 42 → p ≠ 43 → zg sl p i = zg s p i := fun p i p42 p43 => (l4 p i p43).trans (zgz_ne p42)
    have hb0 : ∀ p i, p ≠ 42 → p ≠ 43 → zg (zs (zs (zs sl 42 3 0) 42 0 0) 42 4 (-1)) p i = zg s p i := fun p i p42 p43 => by rw [zgz_ne p42, zgz_ne p42, zgz_ne p42, hsl p i p42 p43]
    have hc0 : ∀ p i, (p ≠ 0 ∨ (i ≠ 17 ∧ i ≠ 18)) → zg (zs (zs t 0 17 (nI k)) 0 18 0) p i = zg t p i := fun p i hp => by
      by_cases p0 : p = 0
      · subst p0
        rw [zgz_nj (by omega), zgz_nj (by omega)]
      · rw [zgz_ne p0, zgz_ne p0]
    have hv : rV k m (fun i => Int64.toInt32 (zgl t 13 (160 * k + i))) W (zs (zs (zs sl 42 3 0) 42 0 0) 42 4 (-1)) (zs (zs t 0 17 (nI k)) 0 18 0) W 0 (zs (zs (zs sl 42 3 0) 42 0 0) 42 4 (-1)) (zs (zs t 0 17 (nI k)) 0 18 0) := by
      refine ⟨hf, aX_fr (fun p h2 h11 i => hb0 p i (by omega) (by omega)) hX, aMz_fr (fun p h1 h10 i => hc0 p i (by omega)) (hc0 0 0 (by decide)) (hc0 0 10 (by decide)) (hc0 0 12 (by decide)) hMz, rEx_r W, ⟨fun _ _ _ => rfl, fun _ _ => rfl⟩, ⟨fun _ _ _ _ _ => rfl, fun _ _ _ _ _ _ => rfl, fun _ _ => rfl⟩, ⟨?_, ?_, fun i hi => ?_⟩, ⟨?_, ?_, fun i hi => rfl, ?_⟩, Nat.zero_le _, zgz_eq, ?_⟩
      · rw [zgz_nj (by decide), zgz_nj (by decide), zgz_nj (by decide), l4 42 2 (by decide), zgz_eq]
      · rw [zgz_nj (by decide), zgz_nj (by decide), zgz_eq, nI_0]
      · rw [zgz_ne (by decide), zgz_ne (by decide), zgz_ne (by decide), l2 i (Nat.zero_le _) hi]
        show Int64.toInt32 (zgl s 35 (k * 160 + i)) = _
        rw [d3 i hi]
      · rw [zgz_nj (by decide), zgz_eq]
      · rw [hc0 12 k (by omega)]; exact d2
      · rw [zgz_eq, nI_0]
      · rw [zgz_nj (by decide), zgz_eq, Nat.sub_self, nI_0]
    have eX : zcall zMs skX (d + 40) 89 [.inr (.inr 0), .inl (nI k)] s = zcI (zexec skX (zcall zMs skX (d + 38)) zT_D_readText 1 19999 16 [some (.inr (.inr 42)), some (.inr (.inr 2)), some (.inr (.inr 36)), some (.inl (nI (aN W))), some (.inl 1), some (.inl (nI 0))] [] (zs (zs (zs sl 42 3 0) 42 0 0) 42 4 (-1))) fun r105 s104 => if ¬ r105 = (-1 : Int32) then (zcI (zcall zMs skX (d + 39) 117 [.inr (.inr 0), .inl (-6 : Int32)] (zs s104 0 8 r105)) fun r108 s107 => some (some (.inl r108), s107)) else (some (some (.inl (zg s104 42 0)), zs s104 0 8 r105)) := by
      rw [aX_X_read]
      unfold bX_X_read_0
      rw [w1, zcI_some, if_pos (show (0 : Int32) = 0 from rfl), aX_D_lay]
      unfold bX_D_lay_0
      dsimp only
      rw [zin_nI hk (by decide), nI_clamp (show k < 2 ^ 31 by omega), d1, l1, zcV_some, aX_D_readText]
      unfold bX_D_readText_0
      dsimp only
      rw [hsl 2 0 (by decide) (by decide), hX.1, nI_0]
    have eM : zcall zMs skM (d + 40) 160 [.inr (.inr 0), .inl (nI k)] t = zcI (zcall zMs skM (d + 39) 159 [.inr (.inr 0)] (zs (zs t 0 17 (nI k)) 0 18 0)) fun r106 s105 => zexec skM (zcall zMs skM (d + 39)) zT_M_read 1 19999 22 [some (.inr (.inr 0)), some (.inl (nI k)), none, some (.inl (nI (aN W))), some (.inl r106)] [] s105 := by
      rw [aM_M_read]
      unfold bM_M_read_0
      rw [w2, zcI_some, if_pos (show (0 : Int32) ≤ 0 by decide), hMz.1]
    rw [eX, eM]
    have hT := jk_text (n0 := aN W) (d + 29) (d + 30) hk hm m 0 19999 19999 W 0 _ _ hv (by omega) (by omega) (by omega) (by omega)
    have hslz : ∀ p i, zgl sl p i = zgl s p i := fun p i => l5 p i
    rcases hT with ⟨W', s', t', r1, r2, r3⟩ | ⟨s', t', r1, r2, W', f, q1, q2, q3, q4, q5, q6, q7, q8, q9⟩
    · obtain ⟨q1, q2, q3, q4, q5, q6, -, -, -, -, q11⟩ := r3
      refine ⟨nI (aN W' - aN W), zs s' 0 8 (-1), zs t' 0 16 (-1), ?_, ?_, ?_⟩
      · rw [r1, zcI_some, if_neg (fun c => c rfl), q11]
      · rw [r2, pk_sub q4.1]
      · exact aRel_gen (W := W) q1 q4.1 (aX_fr (fun p h2 h11 i => zgz_ne (by omega)) q2) (aMz_fr (fun p h1 h10 i => zgz_ne (by omega)) (zgz_nj (by decide)) (zgz_nj (by decide)) (zgz_nj (by decide)) q3) (fun p hp i => (zgz_ne (by omega)).trans ((q5.1 p (by omega) i).trans (hb0 p i (by omega) (by omega)))) ((zgz_nj (by decide)).trans ((q5.1 0 (by decide) 7).trans (hb0 0 7 (by decide) (by decide)))) ((zgz_nj (by decide)).trans ((q5.1 0 (by decide) 9).trans (hb0 0 9 (by decide) (by decide)))) ((zgz_nj (by decide)).trans ((q5.1 0 (by decide) 10).trans (hb0 0 10 (by decide) (by decide)))) ((zgz_ne (by decide)).trans ((q5.1 1 (by decide) 3).trans (hb0 1 3 (by decide) (by decide)))) (fun p i => (q5.2 p i).trans (hslz p i)) (fun p hp i => (zgz_ne (by omega)).trans ((q6.1 p (by omega) (by omega) (by omega) i).trans (hc0 p i (by omega)))) ((zgz_nj (by decide)).trans ((q6.2.1 30 (by decide) (by decide) (by decide) (by decide) (by decide)).trans (hc0 0 30 (by decide)))) ((zgz_nj (by decide)).trans ((q6.2.1 31 (by decide) (by decide) (by decide) (by decide) (by decide)).trans (hc0 0 31 (by decide)))) ((zgz_nj (by decide)).trans ((q6.2.1 32 (by decide) (by decide) (by decide) (by decide) (by decide)).trans (hc0 0 32 (by decide)))) ((zgz_nj (by decide)).trans ((q6.2.1 39 (by decide) (by decide) (by decide) (by decide) (by decide)).trans (hc0 0 39 (by decide)))) (fun p i => q6.2.2 p i) (zgz_eq.trans zgz_eq.symm) h4 h5 h6
    · have hX1 := aX_cut q4 q2
      have hM1 := aMz_cut q4 q3
      have hne : ¬ zg s' 42 4 = -1 := by rw [q8]; exact nI_neg1 (by omega)
      refine ⟨-6, _, _, ?_, ?_, aRel_refuse 6 (s := zs (zs s' 2 0 (nI (aN W))) 0 8 (zg s' 42 4)) (t := tF t' (aN W)) ?_⟩
      · rw [r1, zcI_some, if_pos hne, sX_refuse6, zcI_some]
      · rw [r2]
        rfl
      · exact aRel_gen (W := W) hf (Nat.le_refl _) (aX_fr (fun p h2 h11 i => zgz_ne (by omega)) hX1) (aMz_fr (t := zs t' 0 0 (nI (aN W))) (fun p h1 h10 i => by unfold tF; rw [zgz_ne (by omega), zgz_ne (by omega), zgz_ne (by omega)]) rfl rfl rfl hM1) (fun p hp i => (zgz_ne (by omega)).trans ((zgz_ne (by omega)).trans ((q5.1 p (by omega) i).trans (hb0 p i (by omega) (by omega))))) ((zgz_nj (by decide)).trans ((zgz_ne (by decide)).trans ((q5.1 0 (by decide) 7).trans (hb0 0 7 (by decide) (by decide))))) ((zgz_nj (by decide)).trans ((zgz_ne (by decide)).trans ((q5.1 0 (by decide) 9).trans (hb0 0 9 (by decide) (by decide))))) ((zgz_nj (by decide)).trans ((zgz_ne (by decide)).trans ((q5.1 0 (by decide) 10).trans (hb0 0 10 (by decide) (by decide))))) ((zgz_ne (by decide)).trans ((zgz_ne (by decide)).trans ((q5.1 1 (by decide) 3).trans (hb0 1 3 (by decide) (by decide))))) (fun p i => (q5.2 p i).trans (hslz p i)) (fun p hp i => (zgz_ne (by omega)).trans ((zgz_ne (by omega)).trans ((q6.1 p (by omega) (by omega) (by omega) i).trans (hc0 p i (by omega))))) ((zgz_nj (by decide)).trans ((zgz_nj (by decide)).trans ((q6.2.1 30 (by decide) (by decide) (by decide) (by decide) (by decide)).trans (hc0 0 30 (by decide))))) ((zgz_nj (by decide)).trans ((zgz_nj (by decide)).trans ((q6.2.1 31 (by decide) (by decide) (by decide) (by decide) (by decide)).trans (hc0 0 31 (by decide))))) ((zgz_nj (by decide)).trans ((zgz_nj (by decide)).trans ((q6.2.1 32 (by decide) (by decide) (by decide) (by decide) (by decide)).trans (hc0 0 32 (by decide))))) ((zgz_nj (by decide)).trans ((zgz_nj (by decide)).trans ((q6.2.1 39 (by decide) (by decide) (by decide) (by decide) (by decide)).trans (hc0 0 39 (by decide))))) (fun p i => q6.2.2 p i) (zgz_eq.trans (by rw [q8, ← q9]; exact ((zgz_nj (by decide)).trans zgz_eq).symm)) h4 h5 h6
