/-! send, trial -/
theorem zDp_620 : ∃ D, zDp = D + 620 := ⟨880, rfl⟩
theorem cFrm_nil {s s' : zS} {o k0 : Nat} {R : eR} {W' : aW} (h : cFrm s s' o k0 R W') (hn : R.2.2.2.2 = []) : zg s' 1 3 = nI k0 ∧ ∀ i, i < 30 → zg s' 17 i = zg s 17 i := by
  obtain ⟨-, -, -, g3, g17, -⟩ := h
  rw [hn] at g3 g17
  refine ⟨g3, fun i hi => ?_⟩
  rw [g17 i hi]
  exact if_neg (by show ¬ (k0 ≤ i ∧ i < k0 + 0); omega)
theorem eFin_X {W : aW} {o : Nat} {R : eR} {s s' : zS} (h : aX 2 s' (eFin W o R)) (hX : aX 2 s W) (ho : o < aN W) (hv : cSv s s' o) : aX 2 (xUndo s' o) W := xUndo_X h hX ho hv
theorem m4nI : (4 : Int32) = nI 4 := by decide
theorem sim_send (a1 a2 a3 : Int32) : zSim aRel 102 189 [.inl a1, .inl a2, .inl a3] := by
  intro s t h
  obtain ⟨D, hd⟩ := zDp_620
  rw [hd]
  obtain ⟨W, hf, hX, hM, h4, h5, h6⟩ := id h
  have hn := hf.1
  by_cases h1 : zIn a1 (aN W)
  · by_cases h2 : zIn a2 16
    · obtain ⟨o, ho, rfl⟩ := zIn_ex h1 (by omega)
      obtain ⟨sl, hs, rfl⟩ := zIn_ex h2 (by omega)
      obtain ⟨r1, r2, r3, r4, k, hk, r5, r6, r7⟩ := id h5
      have hMz := aMz_of hf hM
      have hM1 : aMz (zs t 0 29 0) W := aMz_fr (fun p a b i => zgz_ne (by omega)) rfl rfl rfl hMz
      have hX1 : aX 2 (zs s 1 4 0) W := aX_fr (fun p a b i => zgz_ne (by omega)) hX
      obtain ⟨p1, p2, p3, p4⟩ := eSnd_ok (o := o) (r := 0) sl a3 hf (by omega)
      obtain ⟨s', g1, g2⟩ := cSend (d := D + 609) (x := a3) hf ho hk hX1 (r := 0) (by exact zgz_eq.trans nI_0.symm) (by omega) (k0 := k) r5 hs
      have hm := mSend1 (r := 0) (t := zs t 0 29 0) (D + 9) a3 hf ho hM1 (by exact zgz_eq.trans nI_0.symm) (by omega) hs
      rw [show D + 9 + 610 = D + 619 by omega] at hm
      obtain ⟨v, t', e1, e28, e29, ev0, ⟨t2, e2, e3⟩, -⟩ := mFin hf hM1 hm p1 (D + 617)
      have hbg := sM_begins (D + 617) o (zs t 0 29 0)
      generalize eSnd W o sl 0 a3 = R at p1 p2 p3 p4 g1 g2 e1 e28 e29 ev0 e2 e3
      obtain ⟨c3, c17⟩ := cFrm_nil g2 p4
      obtain ⟨x1, x2, x3, -, -, x6, x7, x8, x9⟩ := g2
      obtain ⟨y1, y2, y3, y4, y5, y6, y7, y8⟩ := e3
      refine ⟨nI R.1, zs (zs s' 0 9 (zg s' 1 5)) 0 10 (zg s' 1 4), zs (zs t2 0 30 (if R.1 = 0 then R.2.1 else 0)) 0 31 (zg t2 0 29), ?_, ?_, ?_⟩
      · rw [aX_X_send]
        unfold bX_X_send_0
        rw [sX_hasObject (n := aN W) _ _ s hX.1 hf.1, zcI_some, zBp_t h1, if_neg o1, sX_isSlot, zcI_some, zBp_t h2, if_pos o1, aX_U_beginAct]
        unfold bX_U_beginAct_0
        dsimp only
        rw [zcV_some, g1, zcI_some]
      · rw [aM_M_send]
        unfold bM_M_send_0
        rw [sM_isOne (n := aN W) _ _ t (aM_n hM) hf.1, zcI_some, zBp_t h1, if_neg o1, sM_isSlot, zcI_some, zBp_t h2, if_pos o1]
        dsimp only
        rw [hbg, zcV_some, e1, zcI_some, e2, zcI_some, y2]
      · refine aRel_act (W := W) (eFin_f hf p2) (eFin_n W o R) (aX_fr (fun p a b i => ?_) x1) (aMz_fr (fun p a b i => ?_) rfl rfl rfl y1) ?_ ?_ ?_ ?_ ?_ ?_ ?_ ?_ ?_ ?_ ⟨k, hk, ?_, ?_, ?_⟩ h4 h5 h6
        · rw [zgz_ne (by omega), zgz_ne (by omega)]
        · rw [zgz_ne (by omega), zgz_ne (by omega)]
        · intro p hp i
          rw [zgz_ne (by omega), zgz_ne (by omega), x8 p (by omega) (by omega) (by omega) (by omega) (by omega) (by omega) (by omega) (by omega) (by omega), zgz_ne (by omega)]
        · rw [zgz_nj (by decide), zgz_nj (by decide), x8 0 (by decide) (by decide) (by decide) (by decide) (by decide) (by decide) (by decide) (by decide) (by decide), zgz_ne (by decide)]
        · rw [zgz_nj (by decide), zgz_nj (by decide), x8 0 (by decide) (by decide) (by decide) (by decide) (by decide) (by decide) (by decide) (by decide) (by decide), zgz_ne (by decide)]
        · intro p i
          exact x9 p i
        · intro p hp i
          rw [zgz_ne (by omega), zgz_ne (by omega), y6 p (by omega) (by omega) (by omega) (by omega) (by omega) (by omega) (by omega), zgz_ne (by omega)]
        · rw [zgz_nj (by decide), zgz_nj (by decide), y7 16 (by decide) (by decide) (by decide) (by decide), zgz_nj (by decide)]
        · rw [zgz_nj (by decide), zgz_nj (by decide), y7 39 (by decide) (by decide) (by decide) (by decide), zgz_nj (by decide)]
        · intro p i
          exact y8 p i
        · rw [zgz_nj (by decide), zgz_eq, zgz_nj (by decide), zgz_eq, x2]
        · rw [zgz_eq, zgz_eq, x3, y3]
        · rw [zgz_ne (by decide), zgz_ne (by decide), c3]
        · rw [zgz_nj (by decide), zgz_nj (by decide), y7 32 (by decide) (by decide) (by decide) (by decide), zgz_nj (by decide), r6]
        · intro i hi hi30
          rw [zgz_ne (by decide), zgz_ne (by decide), c17 i hi30, zgz_ne (by decide), zgz_ne (by decide), zgz_ne (by decide), y6 21 (by decide) (by decide) (by decide) (by decide) (by decide) (by decide) (by decide), zgz_ne (by decide), r7 i hi hi30]
    · refine ⟨-1, _, _, ?_, ?_, aRel_refuse 1 h⟩
      · rw [aX_X_send]
        unfold bX_X_send_0
        rw [sX_hasObject (n := aN W) _ _ s hX.1 hf.1, zcI_some, zBp_t h1, if_neg o1, sX_isSlot, zcI_some, zBp_f h2, if_neg z0, sX_refuse1, zcI_some]
      · rw [aM_M_send]
        unfold bM_M_send_0
        rw [sM_isOne (n := aN W) _ _ t (aM_n hM) hf.1, zcI_some, zBp_t h1, if_neg o1, sM_isSlot, zcI_some, zBp_f h2, if_neg z0, sM_no1, zcI_some]
  · refine ⟨-1, _, _, ?_, ?_, aRel_refuse 1 h⟩
    · rw [aX_X_send]
      unfold bX_X_send_0
      rw [sX_hasObject (n := aN W) _ _ s hX.1 hf.1, zcI_some, zBp_f h1, if_pos rfl, sX_refuse1, zcI_some]
    · rw [aM_M_send]
      unfold bM_M_send_0
      rw [sM_isOne (n := aN W) _ _ t (aM_n hM) hf.1, zcI_some, zBp_f h1, if_pos rfl, sM_no1, zcI_some]
/-- a send that is undone, on both sides: what is answered, what stands then -/
theorem aTry {W : aW} {s t : zS} {o sl r k : Nat} (D : Nat) (x : Int32) (hf : aWf W) (ho : o < aN W) (hs : sl < 16) (hr : r ≤ 200) (hX : aX 2 s W) (hM : aMz t W) (h4 : zg s 1 4 = nI r) (h29 : zg t 0 29 = nI r) (hk : k ≤ 1000) (h3 : zg s 1 3 = nI k) : ∃ j r' v w s' t', j ≤ 2 ∧ r' ≤ 200 ∧ zcall zMs skX (D + 619) 29 [.inr (.inr 1), .inl (nI o), .inl (nI sl), .inl x] s = some (some (.inl (nI j)), s') ∧ zcall zMs skX (D + 619) 31 [.inr (.inr 1)] s' = some (none, xUndo s' o) ∧ zcall zMs skM (D + 619) 191 [.inr (.inr 0), .inl (nI o), .inl (nI sl), .inl x] t = some (some (.inl w), t') ∧ (j = 0 → w = v ∧ zg s' 1 5 = v) ∧ aX 2 (xUndo s' o) W ∧ aMz t' W ∧ zg (xUndo s' o) 1 4 = nI r' ∧ zg (xUndo s' o) 1 5 = zg s' 1 5 ∧ zg t' 0 29 = nI r' ∧ zg t' 0 28 = nI j ∧ zg (xUndo s' o) 1 3 = nI k ∧ (∀ i, i < 30 → zg (xUndo s' o) 17 i = zg s 17 i) ∧ (∀ p, (p = 0 ∨ 22 ≤ p) → ∀ i, zg (xUndo s' o) p i = zg s p i) ∧ (∀ p i, zgl (xUndo s' o) p i = zgl s p i) ∧ (∀ p, (10 ≤ p ∧ p ≠ 20 ∧ p ≠ 25) → ∀ i, zg t' p i = zg t p i) ∧ (∀ i, i ≠ 28 → i ≠ 29 → i ≠ 33 → i ≠ 38 → zg t' 0 i = zg t 0 i) ∧ (∀ p i, zgl t' p i = zgl t p i) := by
  obtain ⟨p1, p2, p3, p4⟩ := eSnd_ok (o := o) (r := r) sl x hf hr
  obtain ⟨s', g1, g2⟩ := cSend (d := D + 609) (x := x) hf ho hk hX h4 hr h3 hs
  have hm := mSend1 (r := r) (D + 8) x hf ho hM h29 hr hs
  rw [show D + 8 + 610 = D + 618 by omega] at hm
  obtain ⟨v, t', e1, e28, e29, ev0, -, t3, e4, e5⟩ := mFin hf hM hm p1 (D + 617)
  have hbg := sM_begins (D + 616) o t
  generalize eSnd W o sl r x = R at p1 p2 p3 p4 g1 g2 e1 e28 e29 ev0 e4 e5
  obtain ⟨c3, c17⟩ := cFrm_nil g2 p4
  obtain ⟨x1, x2, x3, -, -, x6, x7, x8, x9⟩ := g2
  obtain ⟨y1, y2, y3, y4, y5, y6, y7, y8⟩ := e5
  have u1 : ∀ i, zg (xUndo s' o) 1 i = zg s' 1 i := fun i => xUndo_o _ _ _ _ (by decide) (by decide) (by decide)
  refine ⟨R.1, R.2.2.2.1, R.2.1, v, s', t3, p1, p2.2.1, g1, sU_undo (D + 618) o s' x6 (aWf_lt hf ho), ?_, fun hz => ⟨ev0 hz, by rw [x2, if_pos hz]⟩, eFin_X x1 hX ho x7, y1, by rw [u1, x3], u1 5, y3, y2, by rw [u1, c3], ?_, ?_, x9, ?_, ?_, y8⟩
  · rw [aM_M_tries]
    unfold bM_M_tries_0
    rw [hbg, zcV_some, e1, zcI_some, e4, zcV_some]
  · intro i hi
    rw [xUndo_o _ _ _ _ (by decide) (by decide) (by decide), c17 i hi]
  · intro p hp i
    rw [xUndo_o _ _ _ _ (by omega) (by omega) (by omega), x8 p (by omega) (by omega) (by omega) (by omega) (by omega) (by omega) (by omega) (by omega) (by omega)]
  · intro p hp i
    exact y6 p (by omega) (by omega) (by omega) (by omega) (by omega) (by omega) (by omega) i
  · exact y7
theorem sim_trial (a1 a2 a3 a4 : Int32) : zSim aRel 104 192 [.inl a1, .inl a2, .inl a3, .inl a4] := by
  intro s t h
  obtain ⟨D, hd⟩ := zDp_620
  rw [hd]
  obtain ⟨W, hf, hX, hM, h4, h5, h6⟩ := id h
  have hn := hf.1
  by_cases h1 : zIn a1 (aN W)
  · by_cases h2 : zIn a2 16
    · obtain ⟨o, ho, rfl⟩ := zIn_ex h1 (by omega)
      obtain ⟨sl, hs, rfl⟩ := zIn_ex h2 (by omega)
      have ex : ∀ z : zR, zcall zMs skX (D + 619) 60 [.inr (.inr 2), .inl (nI o)] s = z → True := fun _ _ => trivial
      by_cases h3 : a4 = 0 ∨ a4 = 1
      · obtain ⟨r1, r2, r3, r4, k, hk, r5, r6, r7⟩ := id h5
        have hMz := aMz_of hf hM
        have hM1 : aMz (zs t 0 29 0) W := aMz_fr (fun p a b i => zgz_ne (by omega)) rfl rfl rfl hMz
        have hX1 : aX 2 (zs s 1 4 0) W := aX_fr (fun p a b i => zgz_ne (by omega)) hX
        obtain ⟨j, r', v, w, s', t', q1, q1', q2, q3, q4, q5, q6, q7, q8, q9, q10, q11, q12, q13, q14, q15, q16, q17, q18⟩ := aTry (t := zs t 0 29 0) D a3 hf ho hs (r := 0) (by omega) hX1 hM1 (zgz_eq.trans nI_0.symm) (zgz_eq.trans nI_0.symm) hk r5
        rw [show D + 619 = D + 618 + 1 by omega] at q4
        have hrel : aRel (xUndo s' o) t' := by
          refine aRel_act (W := W) hf rfl q6 q7 ?_ ?_ ?_ ?_ ?_ ?_ ?_ ?_ ?_ ?_ ⟨k, hk, q12, ?_, ?_⟩ h4 h5 h6
          · intro p hp i
            rw [q14 p (by omega), zgz_ne (by omega)]
          · rw [q14 0 (by decide), zgz_ne (by decide)]
          · rw [q14 0 (by decide), zgz_ne (by decide)]
          · exact q15
          · intro p hp i
            rw [q16 p (by omega), zgz_ne (by omega)]
          · rw [q17 16 (by decide) (by decide) (by decide) (by decide), zgz_nj (by decide)]
          · rw [q17 39 (by decide) (by decide) (by decide) (by decide), zgz_nj (by decide)]
          · exact q18
          · rw [q14 0 (by decide), zgz_ne (by decide), q17 30 (by decide) (by decide) (by decide) (by decide), zgz_nj (by decide), r3]
          · rw [q14 0 (by decide), zgz_ne (by decide), q17 31 (by decide) (by decide) (by decide) (by decide), zgz_nj (by decide), r4]
          · rw [q17 32 (by decide) (by decide) (by decide) (by decide), zgz_nj (by decide), r6]
          · intro i hi hi30
            rw [q13 i hi30, zgz_ne (by decide), q16 21 (by decide), zgz_ne (by decide), r7 i hi hi30]
        rcases h3 with rfl | rfl
        · refine ⟨nI j, xUndo s' o, t', ?_, ?_, hrel⟩
          · rw [aX_X_trial]
            unfold bX_X_trial_0
            rw [sX_hasObject (n := aN W) _ _ s hX.1 hf.1, zcI_some, zBp_t h1, if_neg o1, sX_isSlot, zcI_some, zBp_t h2, if_pos o1, if_pos (show (0 : Int32) = 0 from rfl), aX_U_beginAct]
            unfold bX_U_beginAct_0
            dsimp only
            rw [zcV_some, q2, zcI_some, q3, zcV_some, if_neg z0]
          · rw [aM_M_trial]
            unfold bM_M_trial_0
            rw [sM_isOne (n := aN W) _ _ t (aM_n hM) hf.1, zcI_some, zBp_t h1, if_neg o1, sM_isSlot, zcI_some, zBp_t h2, if_pos o1, sM_within, zcI_some, zBp_t (by decide), if_pos o1]
            dsimp only
            rw [q4, zcI_some, if_neg z0, q11]
        · refine ⟨nI r', xUndo s' o, t', ?_, ?_, hrel⟩
          · rw [aX_X_trial]
            unfold bX_X_trial_0
            rw [sX_hasObject (n := aN W) _ _ s hX.1 hf.1, zcI_some, zBp_t h1, if_neg o1, sX_isSlot, zcI_some, zBp_t h2, if_pos o1, if_neg o1, if_pos (show (1 : Int32) = 1 from rfl), aX_U_beginAct]
            unfold bX_U_beginAct_0
            dsimp only
            rw [zcV_some, q2, zcI_some, q3, zcV_some, if_pos o1, q8]
          · rw [aM_M_trial]
            unfold bM_M_trial_0
            rw [sM_isOne (n := aN W) _ _ t (aM_n hM) hf.1, zcI_some, zBp_t h1, if_neg o1, sM_isSlot, zcI_some, zBp_t h2, if_pos o1, sM_within, zcI_some, zBp_t (by decide), if_pos o1]
            dsimp only
            rw [q4, zcI_some, if_pos o1, q10]
      · have hnw : ¬ ((0 : Int32).toInt ≤ a4.toInt ∧ a4.toInt ≤ (1 : Int32).toInt) := by
          rw [t0, show (1 : Int32).toInt = 1 by decide]
          intro hc
          apply h3
          have hc2 : a4.toInt = 0 ∨ a4.toInt = 1 := by omega
          rcases hc2 with hc2 | hc2
          · exact Or.inl (Int32.toInt_inj.mp (hc2.trans t0.symm))
          · exact Or.inr (Int32.toInt_inj.mp hc2)
        refine ⟨-5, _, _, ?_, ?_, aRel_refuse 5 h⟩
        · rw [aX_X_trial]
          unfold bX_X_trial_0
          rw [sX_hasObject (n := aN W) _ _ s hX.1 hf.1, zcI_some, zBp_t h1, if_neg o1, sX_isSlot, zcI_some, zBp_t h2, if_pos o1, if_neg (fun c => h3 (Or.inl c)), if_neg (fun c => h3 (Or.inr c)), sX_refuse5, zcI_some]
        · rw [aM_M_trial]
          unfold bM_M_trial_0
          rw [sM_isOne (n := aN W) _ _ t (aM_n hM) hf.1, zcI_some, zBp_t h1, if_neg o1, sM_isSlot, zcI_some, zBp_t h2, if_pos o1, sM_within, zcI_some, zBp_f hnw, if_neg z0, sM_no5, zcI_some]
    · refine ⟨-1, _, _, ?_, ?_, aRel_refuse 1 h⟩
      · rw [aX_X_trial]
        unfold bX_X_trial_0
        rw [sX_hasObject (n := aN W) _ _ s hX.1 hf.1, zcI_some, zBp_t h1, if_neg o1, sX_isSlot, zcI_some, zBp_f h2, if_neg z0, sX_refuse1, zcI_some]
      · rw [aM_M_trial]
        unfold bM_M_trial_0
        rw [sM_isOne (n := aN W) _ _ t (aM_n hM) hf.1, zcI_some, zBp_t h1, if_neg o1, sM_isSlot, zcI_some, zBp_f h2, if_neg z0, sM_no1, zcI_some]
  · refine ⟨-1, _, _, ?_, ?_, aRel_refuse 1 h⟩
    · rw [aX_X_trial]
      unfold bX_X_trial_0
      rw [sX_hasObject (n := aN W) _ _ s hX.1 hf.1, zcI_some, zBp_f h1, if_pos rfl, sX_refuse1, zcI_some]
    · rw [aM_M_trial]
      unfold bM_M_trial_0
      rw [sM_isOne (n := aN W) _ _ t (aM_n hM) hf.1, zcI_some, zBp_f h1, if_pos rfl, sM_no1, zcI_some]
