/-! READ: the loop of the parents -/
theorem jk_pars {k m : Nat} {T : Nat → Int32} {W0 W : aW} {s0 t0 : zS} (d e : Nat) (x1 x2 : Int32) (hk : k < 8) (hm : m ≤ 160) : ∀ (f : Nat) (ps : List Nat) (K a : Nat) (s t : zS), ps.length + f = 2 → f + 2 < K → zg s 42 3 = nI a → rV k m T W0 s0 t0 W (a + 1) (zs s 42 3 (nI (a + 1))) t → tX s ps → mIn (zg t 14) ps → ps.Nodup → (∀ p, p ∈ ps → p < aN W) → (∃ ps' b s' t' K', zexec skX (zcall zMs skX (d + 6)) zT_D_readParents 3 K 2 [some (.inr (.inr 42)), some (.inr (.inr 2)), some (.inr (.inr 36)), some (.inl (nI ps.length)), none] [] s = some (some (.inl 1), s') ∧ zexec skM (zcall zMs skM (e + 6)) zT_M_item 3 K 36 [some (.inr (.inr 0)), some (.inl x1), some (.inl x2), some (.inl (nI ps.length)), some (.inl 1)] [] t = zexec skM (zcall zMs skM (e + 6)) zT_M_item 3 (K' + 1) 36 [some (.inr (.inr 0)), some (.inl x1), some (.inl x2), some (.inl (nI ps'.length)), some (.inl 0)] [] t' ∧ rV k m T W0 s0 t0 W b s' t' ∧ tX s' ps' ∧ mIn (zg t' 14) ps' ∧ ps'.Nodup ∧ ps'.length ≤ 3 ∧ (∀ p, p ∈ ps' → p < aN W) ∧ ¬ tkC m T b 44 ∧ a < b) ∨ (∃ s' t', zexec skX (zcall zMs skX (d + 6)) zT_D_readParents 3 K 2 [some (.inr (.inr 42)), some (.inr (.inr 2)), some (.inr (.inr 36)), some (.inl (nI ps.length)), none] [] s = some (some (.inl 0), s') ∧ zexec skM (zcall zMs skM (e + 6)) zT_M_item 3 K 36 [some (.inr (.inr 0)), some (.inl x1), some (.inl x2), some (.inl (nI ps.length)), some (.inl 1)] [] t = some (some (.inl 0), t') ∧ rBad W0 s0 t0 s' t') := by
  intro f
  induction f with
  | zero =>
    intro ps K a s t hl hK h3 hv hTx hTm hnd hps
    obtain ⟨K, rfl⟩ : ∃ K', K = K' + 1 := ⟨K - 1, by omega⟩
    have hl3 : ps.length < 3 := by omega
    obtain ⟨hf, hX, hM, -, -, -, hx, ht, ha, -, -⟩ := id hv
    have hn := hf.1
    rw [hX_D_readParents_2, hM_M_item_36]
    unfold bX_D_readParents_2 bM_M_item_36
    rw [if_neg (show ¬ (3 : Int32) ≤ nI ps.length from nI_ge (show ps.length < 3 by omega) (by decide)), if_neg o1, aM_M_isParent]
    unfold bM_M_isParent_0
    dsimp only
    rw [h3, nI_1]
    have hTx1 : tX (zs s 42 3 (nI (a + 1))) ps := ⟨(zgz_ne (by decide)).trans hTx.1, fun j x hj => (zgz_ne (by decide)).trans (hTx.2 j x hj)⟩
    generalize hs1 : zs s 42 3 (nI (a + 1)) = s1 at hv hX hx hTx1 ⊢
    rcases jk_un (d + 4) (e + 2) hk hm ha hx ht with ⟨b, s2, t2, b1, b2, b3, b4, b5, b6, b7, b8, b9, b10⟩ | ⟨t2, b3, b4, b6, b8⟩
    · have hv2 := rv_go hv b5 b6 b7 b8 b2
      obtain ⟨-, hX2, hM2, -, -, -, hx2, ht2, -, -, -⟩ := id hv2
      have hTx2 : tX s2 ps := ⟨(b5.1 36 1 (by decide)).trans hTx1.1, fun j x hj => (b5.1 37 j (by omega)).trans (hTx1.2 j x hj)⟩
      have hTm2 : mIn (zg t2 14) ps := fun j x hj => (b6.1 14 j (by omega)).trans (hTm j x hj)
      have hno := mk_no (t := t2) (zcall zMs skM (e + 5)) hl3 ps.length 0 19999 (by omega) (by omega)
      rw [nI_0, b9] at hno
      have hbad : rBad W0 s0 t0 (zs s2 42 4 (nI (a + 1))) (zs (zs t2 0 18 (nI (a + 1))) 14 ps.length (zg t2 0 19)) := rBad_14 (rv_bad hv2 hm (kFX_r _) (kFM_z (kFM_r _) (by decide)) zgz_eq ha)
      rw [b3, zcI_some, if_pos o1, b4, zcI_some, if_pos o1, b10, sX_hasObject (n := aN W) (d + 5) _ s2 hX2.1 hn, zcI_some, sM_isOne (n := aN W) (e + 3) _ t2 hM2.1 hn, zcI_some]
      by_cases hz : zIn (zg t2 0 19) (aN W)
      · obtain ⟨u, hu, hue⟩ := zIn_ex hz (by omega)
        have hu16 : u < 16 := by omega
        have hps16 : ∀ x, x ∈ ps → x < 16 := fun x hx => by have := hps x hx; omega
        have k1 : zg s2 3 u = nI (aK W u) := (hX2.2.2.2.1 u hu).1
        have k2 : zg t2 1 u = nI (aK W u) := (hM2.2.2.2.1 u hu).1
        rw [zBp_t hz, if_neg o1, if_neg o1, b10]
        rw [hue] at hno hbad ⊢
        rw [zin_nI hu16 (by decide), zin_nI hu16 (by decide), nI_clamp (show u < 2 ^ 31 by omega), k1, k2]
        by_cases hk2 : nI (aK W u) = 2
        · refine Or.inr ⟨_, _, ?_, ?_, hbad⟩
          · rw [if_pos hk2, xk_mf, zcI_some, zbo_0]
          · rw [if_pos hk2, hno, zcI_some, if_neg z0, zbo_0]
        · rw [if_neg hk2, if_neg hk2, xk_tells (d + 5) (by omega) hps16 hu16 hTx2, zcI_some]
          obtain ⟨y1, y2⟩ := mk_yes (t := t2) (zcall zMs skM (e + 5)) hl3 hps16 hu16 hTm2 hue ps.length 0 19999 (by omega) (by omega)
          rw [nI_0] at y1 y2
          by_cases hin : u ∈ ps
          · refine Or.inr ⟨_, _, ?_, ?_, hbad⟩
            · rw [zBp_t hin, if_neg o1, xk_mf, zcI_some, zbo_0]
            · obtain ⟨j, hj⟩ := List.getElem?_of_mem hin
              rw [y1 ⟨j, Nat.zero_le _, hj⟩, zcI_some, if_neg z0, zbo_0, b9, hue]
          · have hnin : ¬ ∃ j, 0 ≤ j ∧ ps[j]? = some u := fun ⟨j, _, hj⟩ => hin (List.mem_of_getElem? hj)
            obtain ⟨s3, q1, q2, q3, q4⟩ := xk_tell1 (s := s2) (ps := ps) (u := u) (d + 5) hl3 hTx2
            have hv3 : rV k m T W0 s0 t0 W b s3 (zs t2 14 ps.length (nI u)) := rv_fr hv2 q3 q4 (fun p _ h14 _ _ _ _ i => zgz_ne h14) (fun i _ => zgz_ne (by decide)) (fun _ _ => rfl)
            have hTm3 : mIn (zg (zs t2 14 ps.length (nI u)) 14) (ps ++ [u]) := mIn_add hTm2 zgz_eq (fun i hi => zgz_nj hi)
            have hlen : (ps ++ [u]).length = ps.length + 1 := by rw [List.length_append, List.length_singleton]
            have hnd3 : (ps ++ [u]).Nodup := by
              rw [List.nodup_append]
              refine ⟨hnd, by simp, fun x hx y hy => ?_⟩
              rw [List.mem_singleton] at hy
              rw [hy]
              exact fun c => hin (c ▸ hx)
            have hps3 : ∀ p, p ∈ ps ++ [u] → p < aN W := fun p hp => by
              rcases List.mem_append.mp hp with hp | hp
              · exact hps p hp
              · rw [List.mem_singleton.mp hp]; exact hu
            obtain ⟨-, hX3, hM3, -, -, -, hx3, ht3, -, -, -⟩ := id hv3
            rw [zBp_f hin, if_pos (show (0 : Int32) = 0 from rfl), b10, hue, q1, zcV_some, xk_st (d + 5) 44 hm b2 hx3, zcI_some, y2 hnin, zcI_some, if_pos o1, nI_1]
            by_cases hc : tkC m T b 44
            · rw [zBp_t hc, if_pos o1]
              obtain ⟨K, rfl⟩ : ∃ K', K = K' + 1 := ⟨K - 1, by omega⟩
              refine Or.inr ⟨_, _, ?_, ?_, rv_bad hv3 hm (kFX_r _) (kFM_r _) ht3.2.2.2 b2⟩
              · rw [hX_D_readParents_2]
                unfold bX_D_readParents_2
                rw [if_pos (show (3 : Int32) ≤ nI (ps.length + 1) from nI_le (a := 3) (by omega) (by omega)), hx3.2.1, xk_mf, zcI_some, zbo_0]
              · rw [if_pos (show (3 : Int32) ≤ nI (ps.length + 1) from nI_le (a := 3) (by omega) (by omega)), hM_M_item_36]
                unfold bM_M_item_36
                rw [if_pos (show (0 : Int32) = 0 from rfl), mk_sg (e + 5) hk hm b2 ht3, zcI_some, if_neg (fun c => c ((tkS_c (by decide)).mpr hc)), zbo_0]
            · rw [zBp_f hc, if_neg z0, zbo_1]
              rw [if_pos (show (3 : Int32) ≤ nI (ps.length + 1) from nI_le (a := 3) (by omega) (by omega))]
              obtain ⟨K, rfl⟩ : ∃ K', K = K' + 1 := ⟨K - 1, by omega⟩
              exact Or.inl ⟨ps ++ [u], b, s3, _, K, rfl, by rw [hlen], hv3, q2, hTm3, hnd3, by omega, hps3, hc, by omega⟩
      · refine Or.inr ⟨_, _, ?_, ?_, hbad⟩
        · rw [zBp_f hz, if_pos (show (0 : Int32) = 0 from rfl), xk_mf, zcI_some, zbo_0]
        · rw [zBp_f hz, if_pos (show (0 : Int32) = 0 from rfl), hno, zcI_some, if_neg z0, zbo_0]
    · refine Or.inr ⟨_, _, ?_, ?_, rv_bad hv hm (kFX_r _) b6 b8 ha⟩
      · rw [b3, zcI_some, if_neg z0, zbo_0]
      · rw [b4, zcI_some, if_neg z0, zbo_0, zcI_some, if_neg z0, zbo_0]
  | succ f ih =>
    intro ps K a s t hl hK h3 hv hTx hTm hnd hps
    obtain ⟨K, rfl⟩ : ∃ K', K = K' + 1 := ⟨K - 1, by omega⟩
    have hl3 : ps.length < 3 := by omega
    obtain ⟨hf, hX, hM, -, -, -, hx, ht, ha, -, -⟩ := id hv
    have hn := hf.1
    rw [hX_D_readParents_2, hM_M_item_36]
    unfold bX_D_readParents_2 bM_M_item_36
    rw [if_neg (show ¬ (3 : Int32) ≤ nI ps.length from nI_ge (show ps.length < 3 by omega) (by decide)), if_neg o1, aM_M_isParent]
    unfold bM_M_isParent_0
    dsimp only
    rw [h3, nI_1]
    have hTx1 : tX (zs s 42 3 (nI (a + 1))) ps := ⟨(zgz_ne (by decide)).trans hTx.1, fun j x hj => (zgz_ne (by decide)).trans (hTx.2 j x hj)⟩
    generalize hs1 : zs s 42 3 (nI (a + 1)) = s1 at hv hX hx hTx1 ⊢
    rcases jk_un (d + 4) (e + 2) hk hm ha hx ht with ⟨b, s2, t2, b1, b2, b3, b4, b5, b6, b7, b8, b9, b10⟩ | ⟨t2, b3, b4, b6, b8⟩
    · have hv2 := rv_go hv b5 b6 b7 b8 b2
      obtain ⟨-, hX2, hM2, -, -, -, hx2, ht2, -, -, -⟩ := id hv2
      have hTx2 : tX s2 ps := ⟨(b5.1 36 1 (by decide)).trans hTx1.1, fun j x hj => (b5.1 37 j (by omega)).trans (hTx1.2 j x hj)⟩
      have hTm2 : mIn (zg t2 14) ps := fun j x hj => (b6.1 14 j (by omega)).trans (hTm j x hj)
      have hno := mk_no (t := t2) (zcall zMs skM (e + 5)) hl3 ps.length 0 19999 (by omega) (by omega)
      rw [nI_0, b9] at hno
      have hbad : rBad W0 s0 t0 (zs s2 42 4 (nI (a + 1))) (zs (zs t2 0 18 (nI (a + 1))) 14 ps.length (zg t2 0 19)) := rBad_14 (rv_bad hv2 hm (kFX_r _) (kFM_z (kFM_r _) (by decide)) zgz_eq ha)
      rw [b3, zcI_some, if_pos o1, b4, zcI_some, if_pos o1, b10, sX_hasObject (n := aN W) (d + 5) _ s2 hX2.1 hn, zcI_some, sM_isOne (n := aN W) (e + 3) _ t2 hM2.1 hn, zcI_some]
      by_cases hz : zIn (zg t2 0 19) (aN W)
      · obtain ⟨u, hu, hue⟩ := zIn_ex hz (by omega)
        have hu16 : u < 16 := by omega
        have hps16 : ∀ x, x ∈ ps → x < 16 := fun x hx => by have := hps x hx; omega
        have k1 : zg s2 3 u = nI (aK W u) := (hX2.2.2.2.1 u hu).1
        have k2 : zg t2 1 u = nI (aK W u) := (hM2.2.2.2.1 u hu).1
        rw [zBp_t hz, if_neg o1, if_neg o1, b10]
        rw [hue] at hno hbad ⊢
        rw [zin_nI hu16 (by decide), zin_nI hu16 (by decide), nI_clamp (show u < 2 ^ 31 by omega), k1, k2]
        by_cases hk2 : nI (aK W u) = 2
        · refine Or.inr ⟨_, _, ?_, ?_, hbad⟩
          · rw [if_pos hk2, xk_mf, zcI_some, zbo_0]
          · rw [if_pos hk2, hno, zcI_some, if_neg z0, zbo_0]
        · rw [if_neg hk2, if_neg hk2, xk_tells (d + 5) (by omega) hps16 hu16 hTx2, zcI_some]
          obtain ⟨y1, y2⟩ := mk_yes (t := t2) (zcall zMs skM (e + 5)) hl3 hps16 hu16 hTm2 hue ps.length 0 19999 (by omega) (by omega)
          rw [nI_0] at y1 y2
          by_cases hin : u ∈ ps
          · refine Or.inr ⟨_, _, ?_, ?_, hbad⟩
            · rw [zBp_t hin, if_neg o1, xk_mf, zcI_some, zbo_0]
            · obtain ⟨j, hj⟩ := List.getElem?_of_mem hin
              rw [y1 ⟨j, Nat.zero_le _, hj⟩, zcI_some, if_neg z0, zbo_0, b9, hue]
          · have hnin : ¬ ∃ j, 0 ≤ j ∧ ps[j]? = some u := fun ⟨j, _, hj⟩ => hin (List.mem_of_getElem? hj)
            obtain ⟨s3, q1, q2, q3, q4⟩ := xk_tell1 (s := s2) (ps := ps) (u := u) (d + 5) hl3 hTx2
            have hv3 : rV k m T W0 s0 t0 W b s3 (zs t2 14 ps.length (nI u)) := rv_fr hv2 q3 q4 (fun p _ h14 _ _ _ _ i => zgz_ne h14) (fun i _ => zgz_ne (by decide)) (fun _ _ => rfl)
            have hTm3 : mIn (zg (zs t2 14 ps.length (nI u)) 14) (ps ++ [u]) := mIn_add hTm2 zgz_eq (fun i hi => zgz_nj hi)
            have hlen : (ps ++ [u]).length = ps.length + 1 := by rw [List.length_append, List.length_singleton]
            have hnd3 : (ps ++ [u]).Nodup := by
              rw [List.nodup_append]
              refine ⟨hnd, by simp, fun x hx y hy => ?_⟩
              rw [List.mem_singleton] at hy
              rw [hy]
              exact fun c => hin (c ▸ hx)
            have hps3 : ∀ p, p ∈ ps ++ [u] → p < aN W := fun p hp => by
              rcases List.mem_append.mp hp with hp | hp
              · exact hps p hp
              · rw [List.mem_singleton.mp hp]; exact hu
            obtain ⟨-, hX3, hM3, -, -, -, hx3, ht3, -, -, -⟩ := id hv3
            rw [zBp_f hin, if_pos (show (0 : Int32) = 0 from rfl), b10, hue, q1, zcV_some, xk_st (d + 5) 44 hm b2 hx3, zcI_some, y2 hnin, zcI_some, if_pos o1, nI_1]
            by_cases hc : tkC m T b 44
            · rw [zBp_t hc, if_pos o1]
              rw [if_neg (show ¬ (3 : Int32) ≤ nI (ps.length + 1) from nI_ge (show ps.length + 1 < 3 by omega) (by decide)), (mk_is (e + 4) 44 (by decide) hk hm b2 ht3).1 hc, zcI_some, if_neg o1]
              have hlb := hc.1
              have hv4 := rv_go hv3 (kFX_z (i := 3) (v := nI (b + 1)) (kFX_r s3) (by decide)) (kFM_z (i := 18) (v := nI (b + 1)) (kFM_r _) (by decide)) zgz_eq zgz_eq (show b + 1 ≤ m by omega)
              rcases ih (ps ++ [u]) K b s3 _ (by omega) (by omega) hx3.2.1 hv4 q2 (fun j x hj => (zgz_ne (by decide)).trans (hTm3 j x hj)) hnd3 hps3 with ⟨ps', b', s', t', K', r1, r2, r3, r4, r5, r6, r7, r8, r9, r10⟩ | ⟨s', t', r1, r2, r3⟩
              · rw [hlen] at r1 r2
                exact Or.inl ⟨ps', b', s', t', K', r1, r2, r3, r4, r5, r6, r7, r8, r9, by omega⟩
              · rw [hlen] at r1 r2
                exact Or.inr ⟨s', t', r1, r2, r3⟩
            · rw [zBp_f hc, if_neg z0, zbo_1]
              rw [if_neg (show ¬ (3 : Int32) ≤ nI (ps.length + 1) from nI_ge (show ps.length + 1 < 3 by omega) (by decide)), (mk_is (e + 4) 44 (by decide) hk hm b2 ht3).2 hc, zcI_some, if_pos (show (0 : Int32) = 0 from rfl)]
              obtain ⟨K, rfl⟩ : ∃ K', K = K' + 1 := ⟨K - 1, by omega⟩
              exact Or.inl ⟨ps ++ [u], b, s3, _, K, rfl, by rw [hlen], hv3, q2, hTm3, hnd3, by omega, hps3, hc, by omega⟩
      · refine Or.inr ⟨_, _, ?_, ?_, hbad⟩
        · rw [zBp_f hz, if_pos (show (0 : Int32) = 0 from rfl), xk_mf, zcI_some, zbo_0]
        · rw [zBp_f hz, if_pos (show (0 : Int32) = 0 from rfl), hno, zcI_some, if_neg z0, zbo_0]
    · refine Or.inr ⟨_, _, ?_, ?_, rv_bad hv hm (kFX_r _) b6 b8 ha⟩
      · rw [b3, zcI_some, if_neg z0, zbo_0]
      · rw [b4, zcI_some, if_neg z0, zbo_0, zcI_some, if_neg z0, zbo_0]
