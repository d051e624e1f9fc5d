/-! judge -/
theorem aSh_rw {n : Nat} {s t : zS} {k r : Nat} (hk : k < 8) (hn : n ≤ 16) (hr : r < 4) (h : aSh n s t) (hc : zg s 33 k = nI (100 + r)) : ∃ m, m ≤ 160 ∧ zg s 34 k = nI m ∧ zg t 12 k = nI m ∧ ∀ i, i < m → zgl s 35 (k * 160 + i) = zgl t 13 (160 * k + i) := by
  obtain ⟨-, h1⟩ := h k hk
  rcases h1 with h1 | ⟨o, ho, h1⟩ | ⟨r', m, -, hm, -, c2, c3, c4⟩
  · rw [hc] at h1
    exact absurd h1 (nI_neg1 (by omega))
  · rw [hc] at h1
    have := (nI_i3 (by omega) o (by omega)).mp h1
    omega
  · exact ⟨m, hm, c2, c3, c4⟩
theorem sX_why_ne {s : zS} {k : Nat} (d : Nat) {v : Int32} (hk : k < 8) (h : zcall zMs skX (d + 2) 51 [.inr (.inr 32), .inl (nI k)] s = some (some (.inl v), s)) : v ≠ -1 := by
  rw [aX_H_whyNoRow] at h
  unfold bX_H_whyNoRow_0 at h
  rw [sX_isShelf, zcI_some, zBp_t (zIn_nI hk (by decide)), if_pos o1, sX_holdsObject _ k s hk, zcI_some] at h
  by_cases p : ¬ zg s 33 k = -1 ∧ ¬ 100 ≤ zg s 33 k
  · rw [zBp_t p, if_neg o1] at h
    have := congrArg (fun z : zR => z.map (fun q => q.1)) h
    simp only [Option.map_some, Option.some.injEq, Sum.inl.injEq] at this
    rw [← this]
    decide
  · rw [zBp_f p, if_pos (show (0 : Int32) = 0 from rfl), sX_holdsRow _ k s hk, zcI_some] at h
    by_cases q : ¬ zg s 33 k < 100
    · rw [zBp_t q, if_neg o1] at h
      have := congrArg (fun z : zR => z.map (fun q => q.1)) h
      simp only [Option.map_some, Option.some.injEq, Sum.inl.injEq] at this
      rw [← this]
      decide
    · rw [zBp_f q, if_pos (show (0 : Int32) = 0 from rfl)] at h
      have := congrArg (fun z : zR => z.map (fun q => q.1)) h
      simp only [Option.map_some, Option.some.injEq, Sum.inl.injEq] at this
      rw [← this]
      decide
/-- what holds between two sends of judge -/
def jI (W : aW) (s0 t0 s t : zS) : Prop := aX 2 s W ∧ aMz t W ∧ (∃ r, r ≤ 200 ∧ zg s 1 4 = nI r ∧ zg t 0 29 = nI r) ∧ zg s 1 3 = zg s0 1 3 ∧ (∀ i, i < 30 → zg s 17 i = zg s0 17 i) ∧ (∀ p, (p = 0 ∨ 22 ≤ p) → ∀ i, zg s p i = zg s0 p i) ∧ (∀ p i, zgl s p i = zgl s0 p i) ∧ (∀ p, (10 ≤ p ∧ p ≠ 20 ∧ p ≠ 25) → ∀ i, zg t p i = zg t0 p i) ∧ (∀ i, i ≠ 28 → i ≠ 29 → i ≠ 33 → i ≠ 38 → zg t 0 i = zg t0 0 i) ∧ (∀ p i, zgl t p i = zgl t0 p i)
theorem jI_rel {W : aW} {s0 t0 s t : zS} (hf : aWf W) (h : jI W s0 t0 s t) (h4 : aSh (aN W) s0 t0) (h5 : aRest s0 t0) (h6 : aImg s0 t0) : aRel s t := by
  obtain ⟨q1, q2, -, q3, q4, q5, q6, q7, q8, q9⟩ := h
  obtain ⟨-, -, r3, r4, k, hk, r5, r6, r7⟩ := id h5
  refine aRel_act (W := W) hf rfl q1 q2 (fun p hp i => q5 p (Or.inr hp) i) (q5 0 (Or.inl rfl) 7) (q5 0 (Or.inl rfl) 8) q6 (fun p hp i => q7 p (by omega) i) (q8 16 (by decide) (by decide) (by decide) (by decide)) (q8 39 (by decide) (by decide) (by decide) (by decide)) q9 ?_ ?_ ⟨k, hk, q3.trans r5, (q8 32 (by decide) (by decide) (by decide) (by decide)).trans r6, ?_⟩ h4 h5 h6
  · rw [q5 0 (Or.inl rfl), q8 30 (by decide) (by decide) (by decide) (by decide), r3]
  · rw [q5 0 (Or.inl rfl), q8 31 (by decide) (by decide) (by decide) (by decide), r4]
  · intro i hi hi30
    rw [q4 i hi30, q7 21 (by decide), r7 i hi hi30]
theorem nlit2 (k : Nat) : (2 : Int32) * nI k = nI (2 * k) := by
  rw [show (2 : Int32) = nI 2 from rfl, pk_mul]
theorem sX_intAt (d k i : Nat) (s : zS) (hk : k < 8) (hi : i < 160) : zcall zMs skX (d + 1) 58 [.inr (.inr 32), .inl (nI k), .inl (nI i)] s = some (some (.inl (Int64.toInt32 (zgl s 35 (k * 160 + i)))), s) := by
  rw [aX_H_intAt]
  unfold bX_H_intAt_0
  rw [nlit160, zin_nI (show k * 160 + i < 1280 by omega) (by decide), nI_clamp (show k * 160 + i < 2 ^ 31 by omega)]
theorem sM_read2 (d k i : Nat) (t : zS) (hk : k < 8) (hi : i < 160) : zcall zMs skM (d + 1) 203 [.inr (.inr 0), .inl (nI k), .inl (nI i)] t = some (some (.inl (Int64.toInt32 (zgl t 13 (160 * k + i)))), t) := by
  rw [aM_M_read2]
  unfold bM_M_read2_0
  rw [nlit160', zin_nI (show 160 * k + i < 1280 by omega) (by decide), nI_clamp (show 160 * k + i < 2 ^ 31 by omega)]
theorem jLoop {W : aW} {s0 t0 : zS} {o sl k m n kk : Nat} (D : Nat) (hf : aWf W) (ho : o < aN W) (hs : sl < 16) (hk : k < 8) (hm : m ≤ 160) (hn : 2 * n ≤ m) (hel : ∀ i, i < m → zgl s0 35 (k * 160 + i) = zgl t0 13 (160 * k + i)) (hkk : kk ≤ 1000) (h13 : zg s0 1 3 = nI kk) : ∀ (f two N : Nat) (s t : zS), two + f = n → f < N → jI W s0 t0 s t → ∃ r s' t', zexec skX (zcall zMs skX (D + 619)) zT_X_judge 1 N 55 [some (.inr (.inr 0)), some (.inl (nI k)), some (.inl (nI o)), some (.inl (nI sl)), some (.inl (nI n)), none, some (.inl (nI two)), none] [] s = some (some (.inl r), s') ∧ zexec skM (zcall zMs skM (D + 619)) zT_M_judge 1 N 50 [some (.inr (.inr 0)), some (.inl (nI k)), some (.inl (nI o)), some (.inl (nI sl)), some (.inl (nI n)), none, some (.inl (nI two))] [] t = some (some (.inl r), t') ∧ jI W s0 t0 s' t' := by
  intro f
  induction f with
  | zero =>
    intro two N s t htw hN hI
    obtain ⟨N, rfl⟩ : ∃ N', N = N' + 1 := ⟨N - 1, by omega⟩
    refine ⟨-1, s, t, ?_, ?_, hI⟩
    · rw [hX_X_judge_55]
      unfold bX_X_judge_55
      rw [if_pos (nI_le (by omega) (by omega))]
    · rw [hM_M_judge_50]
      unfold bM_M_judge_50
      rw [if_pos (nI_le (by omega) (by omega))]
  | succ f ih =>
    intro two N s t htw hN hI
    obtain ⟨N, rfl⟩ : ∃ N', N = N' + 1 := ⟨N - 1, by omega⟩
    obtain ⟨q1, q2, ⟨r, hr, q3, q3'⟩, q4, q5, q6, q7, q8, q9, q10⟩ := id hI
    have hx : zgl s 35 (k * 160 + 2 * two) = zgl t 13 (160 * k + 2 * two) := by rw [q7, q10, hel _ (by omega)]
    obtain ⟨j, r', v, w, s', t', u1, u1', u2, u3, u4, u5, u6, u7, u8, u9, u10, u11, u12, u13, u14, u15, u16, u17, u18⟩ := aTry D (Int64.toInt32 (zgl s 35 (k * 160 + 2 * two))) hf ho hs hr q1 q2 q3 q3' hkk (q4.trans h13)
    have hI' : jI W s0 t0 (xUndo s' o) t' := ⟨u6, u7, ⟨r', u1', u8, u10⟩, u12.trans h13.symm, fun i hi => (u13 i hi).trans (q5 i hi), fun p hp i => (u14 p hp i).trans (q6 p hp i), fun p i => (u15 p i).trans (q7 p i), fun p hp i => (u16 p hp i).trans (q8 p hp i), fun i a b c d => (u17 i a b c d).trans (q9 i a b c d), fun p i => (u18 p i).trans (q10 p i)⟩
    have hx2 : zgl (xUndo s' o) 35 (k * 160 + (2 * two + 1)) = zgl t' 13 (160 * k + (2 * two + 1)) := by rw [u15, u18, q7, q10, hel _ (by omega)]
    have e1 := sX_intAt (D + 618) k (2 * two) s hk (by omega)
    have e2 := sM_read2 (D + 618) k (2 * two) t hk (by omega)
    have e3 := sX_intAt (D + 618) k (2 * two + 1) (xUndo s' o) hk (by omega)
    have e4 := sM_read2 (D + 618) k (2 * two + 1) t' hk (by omega)
    rw [← hx] at e2
    rw [← hx2] at e4
    obtain ⟨r2, s2, t2, g1, g2, g3⟩ := ih (two + 1) N (xUndo s' o) t' (by omega) (by omega) hI'
    by_cases hj : j = 0
    · obtain ⟨hw, hv⟩ := u5 hj
      by_cases hc : v = Int64.toInt32 (zgl (xUndo s' o) 35 (k * 160 + (2 * two + 1)))
      · refine ⟨r2, s2, t2, ?_, ?_, g3⟩
        · rw [hX_X_judge_55]
          unfold bX_X_judge_55
          rw [if_neg (nI_ge (show two < n by omega) (by omega)), nlit2, e1, zcI_some, u2, zcI_some, u3, zcV_some, hj, if_neg (show ¬ ¬ nI 0 = 0 by decide), nI_1, e3, zcI_some, u9, hv, if_pos hc, nI_1]
          exact g1
        · rw [hM_M_judge_50]
          unfold bM_M_judge_50
          rw [if_neg (nI_ge (show two < n by omega) (by omega)), nlit2, e2, zcI_some, u4, zcI_some, nI_1, e4, zcI_some, hw, if_neg (fun h => h hc), u11, hj, if_pos nI_0, nI_1]
          exact g2
      · refine ⟨nI two, xUndo s' o, t', ?_, ?_, hI'⟩
        · rw [hX_X_judge_55]
          unfold bX_X_judge_55
          rw [if_neg (nI_ge (show two < n by omega) (by omega)), nlit2, e1, zcI_some, u2, zcI_some, u3, zcV_some, hj, if_neg (show ¬ ¬ nI 0 = 0 by decide), nI_1, e3, zcI_some, u9, hv, if_neg hc]
        · rw [hM_M_judge_50]
          unfold bM_M_judge_50
          rw [if_neg (nI_ge (show two < n by omega) (by omega)), nlit2, e2, zcI_some, u4, zcI_some, nI_1, e4, zcI_some, hw, if_pos hc]
    · have hjn : ¬ nI j = 0 := nI_ne0 (by omega) (by omega)
      refine ⟨nI two, xUndo s' o, t', ?_, ?_, hI'⟩
      · rw [hX_X_judge_55]
        unfold bX_X_judge_55
        rw [if_neg (nI_ge (show two < n by omega) (by omega)), nlit2, e1, zcI_some, u2, zcI_some, u3, zcV_some, if_pos hjn]
      · rw [hM_M_judge_50]
        unfold bM_M_judge_50
        rw [if_neg (nI_ge (show two < n by omega) (by omega)), nlit2, e2, zcI_some, u4, zcI_some, nI_1, e4, zcI_some]
        by_cases hc : ¬ w = Int64.toInt32 (zgl (xUndo s' o) 35 (k * 160 + (2 * two + 1)))
        · rw [if_pos hc]
        · rw [if_neg hc, u11, if_neg hjn]
theorem l2n {n m : Nat} (hn : n < 2 ^ 31) (hm : m < 2 ^ 31) : (lg_cmp ((2 : Int64) * Int32.toInt64 (nI n)) (Int32.toInt64 (nI m)) ≤ 0) ↔ 2 * n ≤ m := by
  rw [lg_cmp_le, nI_l hn, nI_l hm, show (2 : Int64) = lN 2 from rfl, lN_mul, pk_lLE (by omega) (by omega)]
theorem sim_judge (a1 a2 a3 a4 : Int32) : zSim aRel 111 204 [.inl a1, .inl a2, .inl a3, .inl a4] := by
  intro s t h
  obtain ⟨D, hd⟩ := zDp_620
  rw [hd]
  obtain ⟨W, hf, hX, hM, h4, h5, h6⟩ := id h
  have hn := hf.1
  by_cases h0 : zIn a1 8
  · obtain ⟨k, hk, rfl⟩ := zIn_ex h0 (by omega)
    obtain ⟨v, w1, w2, w3⟩ := sXM_noRow (D + 617) (nI k) hn h4
    have hv1 := sX_why_ne (D + 617) hk w1
    by_cases h1 : zIn a2 (aN W)
    · by_cases h2 : zIn a3 16
      · obtain ⟨o, ho, rfl⟩ := zIn_ex h1 (by omega)
        obtain ⟨sl, hs, rfl⟩ := zIn_ex h2 (by omega)
        rcases w3 with w3 | ⟨rfl, k', r, m, hk', hkk, hr, hm, c1, c2, c3, c4⟩
        · have hvn : ¬ v = 0 := nne0 v w3
          have hvn2 : ¬ 0 ≤ v := n0le v w3
          rcases w3 with rfl | rfl | rfl
          · exact absurd rfl hv1
          · refine ⟨-2 - 10, _, _, ?_, ?_, aRel_refuse 2 h⟩
            · rw [aX_X_judge]
              unfold bX_X_judge_0
              rw [sX_isShelf, zcI_some, zBp_t h0, if_neg o1, sX_hasObject (n := aN W) _ _ s hX.1 hf.1, zcI_some, zBp_t h1, if_neg o1, sX_isSlot, zcI_some, zBp_t h2, if_pos o1, w1, zcI_some, if_neg hvn, sX_ten2, zcI_some]
            · rw [aM_M_judge]
              unfold bM_M_judge_0
              rw [w2, zcI_some, if_neg hv1, sM_isOne (n := aN W) _ _ t (aM_n hM) hf.1, zcI_some, zBp_t h1, if_neg o1, sM_isSlot, zcI_some, zBp_t h2, if_pos o1, if_neg hvn2, sM_ten2, zcI_some]
          · refine ⟨-3 - 10, _, _, ?_, ?_, aRel_refuse 3 h⟩
            · rw [aX_X_judge]
              unfold bX_X_judge_0
              rw [sX_isShelf, zcI_some, zBp_t h0, if_neg o1, sX_hasObject (n := aN W) _ _ s hX.1 hf.1, zcI_some, zBp_t h1, if_neg o1, sX_isSlot, zcI_some, zBp_t h2, if_pos o1, w1, zcI_some, if_neg hvn, sX_ten3, zcI_some]
            · rw [aM_M_judge]
              unfold bM_M_judge_0
              rw [w2, zcI_some, if_neg hv1, sM_isOne (n := aN W) _ _ t (aM_n hM) hf.1, zcI_some, zBp_t h1, if_neg o1, sM_isSlot, zcI_some, zBp_t h2, if_pos o1, if_neg hvn2, sM_ten3, zcI_some]
        · by_cases h3 : (0 : Int32) ≤ a4
          · obtain ⟨n, hn31, rfl⟩ := nI_of (x := a4) (by rw [zlt, t0]; rw [zle, t0] at h3; omega)
            obtain ⟨m', hm', d1, d2, d3⟩ := aSh_rw (r := r) hk hn hr h4 (by
              have e : k = k' := (nI_i3 (by omega) k' (by omega)).mp hkk
              subst e
              exact c1)
            by_cases hle : 2 * n ≤ m'
            · obtain ⟨-, -, -, -, kk, hkk2, r5, -, -⟩ := id h5
              have hMz := aMz_of hf hM
              have hI : jI W s t (zs s 1 4 0) (zs t 0 29 0) := ⟨aX_fr (fun p a b i => zgz_ne (by omega)) hX, aMz_fr (fun p a b i => zgz_ne (by omega)) rfl rfl rfl hMz, ⟨0, by omega, zgz_eq.trans nI_0.symm, zgz_eq.trans nI_0.symm⟩, rfl, fun i hi => rfl, fun p hp i => zgz_ne (by omega), fun _ _ => rfl, fun p hp i => zgz_ne (by omega), fun i a b c d => zgz_nj b, fun _ _ => rfl⟩
              obtain ⟨r', s', t', g1, g2, g3⟩ := jLoop D hf ho hs hk hm' hle d3 hkk2 r5 n 0 19999 _ _ (by omega) (by omega) hI
              rw [nI_0] at g1 g2
              refine ⟨r', s', t', ?_, ?_, jI_rel hf g3 h4 h5 h6⟩
              · rw [aX_X_judge]
                unfold bX_X_judge_0
                rw [sX_isShelf, zcI_some, zBp_t h0, if_neg o1, sX_hasObject (n := aN W) _ _ s hX.1 hf.1, zcI_some, zBp_t h1, if_neg o1, sX_isSlot, zcI_some, zBp_t h2, if_pos o1, w1, zcI_some, if_pos (show (0 : Int32) = 0 from rfl), if_pos h3, zin_nI hk (by decide), nI_clamp (show k < 2 ^ 31 by omega), d1, if_pos ((l2n hn31 (by omega)).mpr hle), aX_U_beginAct]
                unfold bX_U_beginAct_0
                dsimp only
                rw [zcV_some]
                exact g1
              · rw [aM_M_judge]
                unfold bM_M_judge_0
                rw [w2, zcI_some, if_neg hv1, sM_isOne (n := aN W) _ _ t (aM_n hM) hf.1, zcI_some, zBp_t h1, if_neg o1, sM_isSlot, zcI_some, zBp_t h2, if_pos o1, if_pos (show (0 : Int32) ≤ 0 by decide), if_pos h3, zin_nI hk (by decide), nI_clamp (show k < 2 ^ 31 by omega), d2, if_pos ((l2n hn31 (by omega)).mpr hle)]
                exact g2
            · refine ⟨-5 - 10, _, _, ?_, ?_, aRel_refuse 5 h⟩
              · rw [aX_X_judge]
                unfold bX_X_judge_0
                rw [sX_isShelf, zcI_some, zBp_t h0, if_neg o1, sX_hasObject (n := aN W) _ _ s hX.1 hf.1, zcI_some, zBp_t h1, if_neg o1, sX_isSlot, zcI_some, zBp_t h2, if_pos o1, w1, zcI_some, if_pos (show (0 : Int32) = 0 from rfl), if_pos h3, zin_nI hk (by decide), nI_clamp (show k < 2 ^ 31 by omega), d1, if_neg (fun c => hle ((l2n hn31 (by omega)).mp c)), sX_ten5, zcI_some]
              · rw [aM_M_judge]
                unfold bM_M_judge_0
                rw [w2, zcI_some, if_neg hv1, sM_isOne (n := aN W) _ _ t (aM_n hM) hf.1, zcI_some, zBp_t h1, if_neg o1, sM_isSlot, zcI_some, zBp_t h2, if_pos o1, if_pos (show (0 : Int32) ≤ 0 by decide), if_pos h3, zin_nI hk (by decide), nI_clamp (show k < 2 ^ 31 by omega), d2, if_neg (fun c => hle ((l2n hn31 (by omega)).mp c)), sM_ten5, zcI_some]
          · refine ⟨-4 - 10, _, _, ?_, ?_, aRel_refuse 4 h⟩
            · rw [aX_X_judge]
              unfold bX_X_judge_0
              rw [sX_isShelf, zcI_some, zBp_t h0, if_neg o1, sX_hasObject (n := aN W) _ _ s hX.1 hf.1, zcI_some, zBp_t h1, if_neg o1, sX_isSlot, zcI_some, zBp_t h2, if_pos o1, w1, zcI_some, if_pos (show (0 : Int32) = 0 from rfl), if_neg h3, sX_ten4, zcI_some]
            · rw [aM_M_judge]
              unfold bM_M_judge_0
              rw [w2, zcI_some, if_neg hv1, sM_isOne (n := aN W) _ _ t (aM_n hM) hf.1, zcI_some, zBp_t h1, if_neg o1, sM_isSlot, zcI_some, zBp_t h2, if_pos o1, if_pos (show (0 : Int32) ≤ 0 by decide), if_neg h3, sM_ten4, zcI_some]
      · refine ⟨-1 - 10, _, _, ?_, ?_, aRel_refuse 1 h⟩
        · rw [aX_X_judge]
          unfold bX_X_judge_0
          rw [sX_isShelf, zcI_some, zBp_t h0, if_neg o1, sX_hasObject (n := aN W) _ _ s hX.1 hf.1, zcI_some, zBp_t h1, if_neg o1, sX_isSlot, zcI_some, zBp_f h2, if_neg z0, sX_ten1, zcI_some]
        · rw [aM_M_judge]
          unfold bM_M_judge_0
          rw [w2, zcI_some, if_neg hv1, sM_isOne (n := aN W) _ _ t (aM_n hM) hf.1, zcI_some, zBp_t h1, if_neg o1, sM_isSlot, zcI_some, zBp_f h2, if_neg z0, sM_ten1, zcI_some]
    · refine ⟨-1 - 10, _, _, ?_, ?_, aRel_refuse 1 h⟩
      · rw [aX_X_judge]
        unfold bX_X_judge_0
        rw [sX_isShelf, zcI_some, zBp_t h0, if_neg o1, sX_hasObject (n := aN W) _ _ s hX.1 hf.1, zcI_some, zBp_f h1, if_pos (show (0 : Int32) = 0 from rfl), sX_ten1, zcI_some]
      · rw [aM_M_judge]
        unfold bM_M_judge_0
        rw [w2, zcI_some, if_neg hv1, sM_isOne (n := aN W) _ _ t (aM_n hM) hf.1, zcI_some, zBp_f h1, if_pos (show (0 : Int32) = 0 from rfl), sM_ten1, zcI_some]
  · refine ⟨-1 - 10, _, _, ?_, ?_, aRel_refuse 1 h⟩
    · rw [aX_X_judge]
      unfold bX_X_judge_0
      rw [sX_isShelf, zcI_some, zBp_f h0, if_pos (show (0 : Int32) = 0 from rfl), sX_ten1, zcI_some]
    · rw [aM_M_judge]
      unfold bM_M_judge_0
      rw [aM_M_noRow]
      unfold bM_M_noRow_0
      rw [sM_in8, zcI_some, zBp_f h0, if_neg z0, zcI_some, if_pos (show (-1 : Int32) = -1 from rfl), sM_ten1, zcI_some]
