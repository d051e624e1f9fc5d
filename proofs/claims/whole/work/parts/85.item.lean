/-! READ: an item, all of it -/
theorem xk_tn (d : Nat) (s : zS) : zcall zMs skX (d + 1) 6 [.inr (.inr 36)] s = some (none, zs s 36 1 0) := by
  rw [aX_G_tellNone]
  unfold bX_G_tellNone_0
  rfl
theorem kn_k {c : Nat} (hc : c ≤ 9) : (zIn (nI c) 4 ↔ c < 4) ∧ (nI c ≤ 3 ↔ c < 4) := by
  constructor
  · constructor
    · intro h
      have := h.2
      rw [nI_toInt (show c < 2 ^ 31 by omega)] at this
      omega
    · exact fun h => zIn_nI h (by decide)
  · constructor
    · intro h
      rw [zle, nI_toInt (show c < 2 ^ 31 by omega)] at h
      have : (3 : Int32).toInt = 3 := by decide
      omega
    · exact fun h => nI_le (b := 3) (by omega) (by decide)
theorem jk_item {k m : Nat} {T : Nat → Int32} {W0 W : aW} {s0 t0 s t : zS} {a : Nat} (d e : Nat) (hk : k < 8) (hm : m ≤ 160) (hv : rV k m T W0 s0 t0 W a s t) : (∃ W' b s' t', zcall zMs skX (d + 8) 18 [.inr (.inr 42), .inr (.inr 2), .inr (.inr 36)] s = some (some (.inl 1), s') ∧ zcall zMs skM (e + 8) 159 [.inr (.inr 0)] t = some (some (.inl 1), t') ∧ rV k m T W0 s0 t0 W' b s' t' ∧ a < b) ∨ (∃ s' t', zcall zMs skX (d + 8) 18 [.inr (.inr 42), .inr (.inr 2), .inr (.inr 36)] s = some (some (.inl 0), s') ∧ zcall zMs skM (e + 8) 159 [.inr (.inr 0)] t = some (some (.inl 0), t') ∧ rBad W0 s0 t0 s' t') := by
  obtain ⟨hf, hX, hM, -, -, -, hx, ht, ha, -, -⟩ := id hv
  rw [aX_D_readItem, aM_M_item]
  unfold bX_D_readItem_0 bM_M_item_0
  rw [hx.2.1, ht.2.2.2]
  rcases xk_ps (d + 5) 110 hm ha hx with ⟨g0, ha1, w0⟩ | ⟨g0, w0⟩
  rotate_left
  · refine Or.inr ⟨_, _, ?_, ?_, rv_bad hv hm (kFX_r _) (kFM_r _) ht.2.2.2 ha⟩
    · rw [w0, zcI_some, if_pos (show (0 : Int32) = 0 from rfl), zbo_0]
    · rw [(mk_is (e + 5) 110 (by decide) hk hm ha ht).2 g0, zcI_some, if_pos (show (0 : Int32) = 0 from rfl), zbo_0]
  rw [w0, zcI_some, if_neg o1, (mk_is (e + 5) 110 (by decide) hk hm ha ht).1 g0, zcI_some, if_neg o1]
  have hv1 := rv_go hv (kFX_z (i := 3) (v := nI (a + 1)) (kFX_r s) (by decide)) (kFM_z (i := 18) (v := nI (a + 1)) (kFM_r t) (by decide)) zgz_eq zgz_eq ha1
  have hx1 := hv1.2.2.2.2.2.2.1
  have ht1 := hv1.2.2.2.2.2.2.2.1
  generalize hs1 : zs s 42 3 (nI (a + 1)) = s1 at hv1 hx1 ⊢
  generalize htt1 : zs t 0 18 (nI (a + 1)) = t1 at hv1 ht1 ⊢
  rcases xk_ps (d + 5) 101 hm ha1 hx1 with ⟨g1, ha2, w1⟩ | ⟨g1, w1⟩
  rotate_left
  · refine Or.inr ⟨_, _, ?_, ?_, rv_bad hv1 hm (kFX_r _) (kFM_r _) ht1.2.2.2 ha1⟩
    · rw [w1, zcI_some, if_pos (show (0 : Int32) = 0 from rfl), zbo_0]
    · rw [(mk_is (e + 5) 101 (by decide) hk hm ha1 ht1).2 g1, zcI_some, if_pos (show (0 : Int32) = 0 from rfl), zbo_0]
  rw [w1, zcI_some, if_neg o1, (mk_is (e + 5) 101 (by decide) hk hm ha1 ht1).1 g1, zcI_some, if_neg o1]
  have hv2 := rv_go hv1 (kFX_z (i := 3) (v := nI (a + 2)) (kFX_r s1) (by decide)) (kFM_z (i := 18) (v := nI (a + 2)) (kFM_r t1) (by decide)) zgz_eq zgz_eq ha2
  have hx2 := hv2.2.2.2.2.2.2.1
  have ht2 := hv2.2.2.2.2.2.2.2.1
  generalize hs2 : zs s1 42 3 (nI (a + 2)) = s2 at hv2 hx2 ⊢
  generalize htt2 : zs t1 0 18 (nI (a + 2)) = t2 at hv2 ht2 ⊢
  rcases xk_ps (d + 5) 119 hm ha2 hx2 with ⟨g2, ha3, w2⟩ | ⟨g2, w2⟩
  rotate_left
  · refine Or.inr ⟨_, _, ?_, ?_, rv_bad hv2 hm (kFX_r _) (kFM_r _) ht2.2.2.2 ha2⟩
    · rw [w2, zcI_some, if_pos (show (0 : Int32) = 0 from rfl), zbo_0]
    · rw [(mk_is (e + 5) 119 (by decide) hk hm ha2 ht2).2 g2, zcI_some, if_pos (show (0 : Int32) = 0 from rfl), zbo_0]
  rw [w2, zcI_some, if_neg o1, (mk_is (e + 5) 119 (by decide) hk hm ha2 ht2).1 g2, zcI_some, if_neg o1]
  have hv3 := rv_go hv2 (kFX_z (i := 3) (v := nI (a + 3)) (kFX_r s2) (by decide)) (kFM_z (i := 18) (v := nI (a + 3)) (kFM_r t2) (by decide)) zgz_eq zgz_eq ha3
  have hx3 := hv3.2.2.2.2.2.2.1
  have ht3 := hv3.2.2.2.2.2.2.2.1
  generalize hs3 : zs s2 42 3 (nI (a + 3)) = s3 at hv3 hx3 ⊢
  generalize htt3 : zs t2 0 18 (nI (a + 3)) = t3 at hv3 ht3 ⊢
  rcases xk_ps (d + 5) 32 hm ha3 hx3 with ⟨g3, ha4, w3⟩ | ⟨g3, w3⟩
  rotate_left
  · refine Or.inr ⟨_, _, ?_, ?_, rv_bad hv3 hm (kFX_r _) (kFM_r _) ht3.2.2.2 ha3⟩
    · rw [w3, zcI_some, if_neg z0, zbo_0]
    · rw [(mk_is (e + 5) 32 (by decide) hk hm ha3 ht3).2 g3, zcI_some, if_pos (show (0 : Int32) = 0 from rfl), zbo_0]
  rw [w3, zcI_some, if_pos o1, (mk_is (e + 5) 32 (by decide) hk hm ha3 ht3).1 g3, zcI_some, if_neg o1]
  have hv4 := rv_go hv3 (kFX_z (i := 3) (v := nI (a + 4)) (kFX_r s3) (by decide)) (kFM_z (i := 18) (v := nI (a + 4)) (kFM_r t3) (by decide)) zgz_eq zgz_eq ha4
  have hx4 := hv4.2.2.2.2.2.2.1
  have ht4 := hv4.2.2.2.2.2.2.2.1
  generalize hs4 : zs s3 42 3 (nI (a + 4)) = s4 at hv4 hx4 ⊢
  generalize htt4 : zs t3 0 18 (nI (a + 4)) = t4 at hv4 ht4 ⊢
  obtain ⟨c1, c2⟩ := mk_d2 (e + 4) (3 : Int32) hk hm ha4 ht4
  rw [xk_dg (d + 6) hm ha4 hx4, zcI_some]
  by_cases hd : tkD m T (a + 4)
  · obtain ⟨hl4, d1, d2⟩ := id hd
    obtain ⟨c, hc9, ec⟩ := kn_c (x := T (a + 4)) (lo := 48) (hi := 57) (by decide) d1 d2
    have ecn : T (a + 4) - 48 = nI c := ec
    obtain ⟨kk1, kk2⟩ := kn_k (show c ≤ 9 by omega)
    rw [ecn] at c1 c2
    rw [zBp_t hd, if_neg o1, hx4.2.1, zin_nI (show a + 4 < 160 by omega) (by decide), nI_clamp (show a + 4 < 2 ^ 31 by omega), hx4.2.2 (a + 4) hl4, ecn, sX_isKind (d + 6) _ s4, zcI_some, zB_iff kk1]
    by_cases hc4 : c < 4
    · rw [zBp_t hc4, if_pos o1, c1 hd (kk2.mpr hc4), zcI_some, if_pos o1, hx4.2.1, zin_nI (show a + 4 < 160 by omega) (by decide)]
      dsimp only
      rw [nI_clamp (show a + 4 < 2 ^ 31 by omega), hx4.2.2 (a + 4) hl4, ecn, nI_1, xk_tn, zcV_some]
      have fm5 : kFM t4 (zs (zs t4 0 19 (nI c)) 0 18 (nI (a + 5))) := kFM_z (kFM_z (kFM_r t4) (by decide)) (by decide)
      have e19 : zg (zs (zs t4 0 19 (nI c)) 0 18 (nI (a + 5))) 0 19 = nI c := (zgz_nj (by decide)).trans zgz_eq
      have hv5 := rv_go hv4 (kFX_z (i := 3) (v := nI (a + 5)) (kFX_r s4) (by decide)) fm5 zgz_eq zgz_eq (show a + 5 ≤ m by omega)
      have hv6 := rv_fr hv5 (s' := zs (zs s4 42 3 (nI (a + 5))) 36 1 0) (t' := zs (zs t4 0 19 (nI c)) 0 18 (nI (a + 5))) (fun p i hp => zgz_ne (by omega)) (fun _ _ => rfl) (fun _ _ _ _ _ _ _ _ => rfl) (fun _ _ => rfl) (fun _ _ => rfl)
      have hTx : tX (zs (zs s4 42 3 (nI (a + 5))) 36 1 0) [] := ⟨zgz_eq.trans nI_0.symm, fun j x hj => by simp at hj⟩
      generalize hs6 : zs (zs s4 42 3 (nI (a + 5))) 36 1 0 = s6 at hv6 hTx ⊢
      generalize ht6 : zs (zs t4 0 19 (nI c)) 0 18 (nI (a + 5)) = t6 at hv6 e19 ⊢
      have hTm : mIn (zg t6 14) [] := fun j x hj => by simp at hj
      have hps0 : ∀ p, p ∈ ([] : List Nat) → p < aN W := fun p hp => by simp at hp
      have e0 : nI ([] : List Nat).length = 0 := nI_0
      have hx6 := hv6.2.2.2.2.2.2.1
      have ht6' := hv6.2.2.2.2.2.2.2.1
      have ha5 : a + 5 ≤ m := by omega
      rw [xk_st (d + 6) 60 hm ha5 hx6, zcI_some, e19]
      by_cases hc : tkC m T (a + 5) 60
      · have hl5 := hc.1
        have hv7 := rv_go hv6 (kFX_z (i := 3) (v := nI (a + 5 + 1)) (kFX_r s6) (by decide)) (kFM_z (i := 18) (v := nI (a + 5 + 1)) (kFM_r t6) (by decide)) zgz_eq zgz_eq (show a + 5 + 1 ≤ m by omega)
        have hp := jk_pars (W := W) d (e + 1) (nI a) (nI c) hk hm 2 [] 19999 (a + 5) s6 _ rfl (by decide) hx6.2.1 hv7 hTx (fun j x hj => by simp at hj) List.nodup_nil hps0
        rw [e0] at hp
        rw [zBp_t hc, if_neg o1, (mk_is (e + 5) 60 (by decide) hk hm ha5 ht6').1 hc, zcI_some, if_neg o1, aX_D_readParents]
        unfold bX_D_readParents_0
        rcases hp with ⟨ps', b, s', t', K', r1, r2, r3, r4, r5, r6, r7, r8, r9, r10⟩ | ⟨s', t', r1, r2, r3⟩
        · have hb := r3.2.2.2.2.2.2.2.2.1
          have htb := r3.2.2.2.2.2.2.2.1
          rw [r1, zcI_some, if_pos o1, r2, hM_M_item_36]
          unfold bM_M_item_36
          rw [if_pos (show (0 : Int32) = 0 from rfl), mk_sg (e + 6) hk hm hb htb, zcI_some, if_pos (show ¬ tkS m T b = 44 from fun c => r9 ((tkS_c (by decide)).mp c))]
          rcases jk_fin d e hk hm ha hc4 r3 r4 r5 r6 r7 r8 with ⟨W', b', s'', t'', v1, v2, v3, v4⟩ | ⟨s'', t'', v1, v2, v3⟩
          · exact Or.inl ⟨W', b', s'', t'', v1, v2, v3, by omega⟩
          · exact Or.inr ⟨s'', t'', v1, v2, v3⟩
        · refine Or.inr ⟨s', t', ?_, r2, r3⟩
          rw [r1, zcI_some, if_neg z0, zbo_0]
      · rw [zBp_f hc, if_pos (show (0 : Int32) = 0 from rfl), (mk_is (e + 5) 60 (by decide) hk hm ha5 ht6').2 hc, zcI_some, if_pos (show (0 : Int32) = 0 from rfl)]
        have hfin := jk_fin d e hk hm ha hc4 hv6 hTx hTm List.nodup_nil (Nat.zero_le _) hps0
        rw [e0] at hfin
        rcases hfin with ⟨W', b', s'', t'', v1, v2, v3, v4⟩ | ⟨s'', t'', v1, v2, v3⟩
        · exact Or.inl ⟨W', b', s'', t'', v1, v2, v3, by omega⟩
        · exact Or.inr ⟨s'', t'', v1, v2, v3⟩
    · refine Or.inr ⟨_, _, ?_, ?_, rv_bad hv4 hm (kFX_r _) (kFM_r _) ht4.2.2.2 ha4⟩
      · rw [zBp_f hc4, if_neg z0, hx4.2.1, xk_mf, zcI_some, zbo_0]
      · rw [c2 (fun e => hc4 (kk2.mp e.2)), zcI_some, if_neg z0, zbo_0]
  · refine Or.inr ⟨_, _, ?_, ?_, rv_bad hv4 hm (kFX_r _) (kFM_r _) ht4.2.2.2 ha4⟩
    · rw [zBp_f hd, if_pos (show (0 : Int32) = 0 from rfl), hx4.2.1, xk_mf, zcI_some, zbo_0]
    · rw [c2 (fun e => hd e.1), zcI_some, if_neg z0, zbo_0]
