/-! READ: the slots of an item -/
theorem kn_c {x : Int32} {lo hi : Nat} (hh : hi < 200) (h1 : (lo : Int) ≤ x.toInt) (h2 : x.toInt ≤ (hi : Int)) : ∃ i, lo + i ≤ hi ∧ x - nI lo = nI i := by
  obtain ⟨k, hk, rfl⟩ := zIn_ex (x := x) (n := 200) ⟨by omega, by omega⟩ (by decide)
  rw [nI_toInt (show k < 2 ^ 31 by omega)] at h1 h2
  have hlo : lo ≤ k := by omega
  exact ⟨k - lo, by omega, pk_sub hlo⟩
theorem xput_o {s : zS} {o i p j : Nat} {g f v : Int32} (h8 : p ≠ 8) (h9 : p ≠ 9) (h10 : p ≠ 10) : zg (xput s o i g f v) p j = zg s p j := by
  unfold xput
  rw [zgz_ne h10, zgz_ne h9, zgz_ne h8]
theorem mput_o {t : zS} {o i p j : Nat} {a b f v : Int32} (h6 : p ≠ 6) (h7 : p ≠ 7) (h8 : p ≠ 8) (h9 : p ≠ 9) : zg (mput t o i a b f v) p j = zg t p j := by
  unfold mput
  simp only [zg_zs, if_neg h6, if_neg h7, if_neg h8, if_neg h9]
theorem rv_put {k m : Nat} {T : Nat → Int32} {W0 W : aW} {s0 t0 s t : zS} {a o i g : Nat} {f v : Int32} (h : rV k m T W0 s0 t0 W a s t) (ho : aN W0 ≤ o) (hi : i < 16) (hg : g = 1 ∨ g = 2) (hg2 : g = 2 → ∃ c, c < 10 ∧ f = nI c) (hg1 : g = 1 → f = 0) : rV k m T W0 s0 t0 (aSet W o i (g, f, v)) a (xput s o i (nI g) f v) (mput t o i (aB (fun b => if b = i then true else decide ((aS W o b).1 ≠ 0)) 16) (aB (fun b => if b = i then decide (g = 2) else decide ((aS W o b).1 = 2)) 16) f v) := by
  obtain ⟨h1, h2, h3, h4, h5, h6, ⟨x1, x2, x3⟩, ⟨m1, m2, m3, m4⟩, h9, h10, h11⟩ := h
  have g2 : g ≤ 2 := hg.elim (fun e => by rw [e]; decide) (fun e => by rw [e]; decide)
  have hwf : aWf (aSet W o i (g, f, v)) := aWf_set h1 g2 hg2 hg1
  refine ⟨hwf, aX_put h2 hi, aMz_put h3 hg hi, rEx_set h4 ho, rFx_t h5 ⟨fun p e j => xput_o (by omega) (by omega) (by omega), fun _ _ => rfl⟩, rFm_t h6 ⟨fun p e _ _ j => mput_o (by omega) (by omega) (by omega) (by omega), fun j _ _ _ _ _ => mput_o (by decide) (by decide) (by decide) (by decide), fun _ _ => rfl⟩, ⟨?_, ?_, fun j hj => ?_⟩, ⟨?_, ?_, m3, ?_⟩, h9, ?_, ?_⟩
  · rw [xput_o (by decide) (by decide) (by decide)]; exact x1
  · rw [xput_o (by decide) (by decide) (by decide)]; exact x2
  · rw [xput_o (by decide) (by decide) (by decide)]; exact x3 j hj
  · rw [mput_o (by decide) (by decide) (by decide) (by decide)]; exact m1
  · rw [mput_o (by decide) (by decide) (by decide) (by decide)]; exact m2
  · rw [mput_o (by decide) (by decide) (by decide) (by decide)]; exact m4
  · rw [xput_o (by decide) (by decide) (by decide)]; exact h10
  · rw [xput_o (by decide) (by decide) (by decide)]; exact h11
theorem jk_slots {k m : Nat} {T : Nat → Int32} {W0 : aW} {s0 t0 : zS} {o : Nat} (d e : Nat) (hk : k < 8) (hm : m ≤ 160) (ho : aN W0 ≤ o) : ∀ (f j K L : Nat) (W : aW) (a : Nat) (s t : zS), rV k m T W0 s0 t0 W a s t → o < aN W → m - a ≤ f → 4 * j ≤ a → f < K → f < L → (∃ W' b s' t', zexec skX (zcall zMs skX (d + 6)) zT_D_readSlots 3 K 2 [some (.inr (.inr 42)), some (.inr (.inr 2)), some (.inl (nI o)), some (.inl (nI j)), none] [] s = some (some (.inl 1), s') ∧ zexec skM (zcall zMs skM (e + 6)) zT_M_slots 3 L 0 [some (.inr (.inr 0)), some (.inl (nI o)), none, none, none] [] t = some (some (.inl 1), t') ∧ rV k m T W0 s0 t0 W' b s' t' ∧ a ≤ b) ∨ (∃ s' t', zexec skX (zcall zMs skX (d + 6)) zT_D_readSlots 3 K 2 [some (.inr (.inr 42)), some (.inr (.inr 2)), some (.inl (nI o)), some (.inl (nI j)), none] [] s = some (some (.inl 0), s') ∧ zexec skM (zcall zMs skM (e + 6)) zT_M_slots 3 L 0 [some (.inr (.inr 0)), some (.inl (nI o)), none, none, none] [] t = some (some (.inl 0), t') ∧ rBad W0 s0 t0 s' t') := by
  intro f
  induction f with
  | zero => ?_
  | succ f ih => ?_
  all_goals
    intro j K L W a s t hv hoW hfa hja hK hL
    obtain ⟨K, rfl⟩ : ∃ K', K = K' + 1 := ⟨K - 1, by omega⟩
    obtain ⟨L, rfl⟩ : ∃ L', L = L' + 1 := ⟨L - 1, by omega⟩
    obtain ⟨hf, hX, hM, -, -, -, hx, ht, ha, -, -⟩ := id hv
    have ho16 := aWf_lt hf hoW
    rw [hX_D_readSlots_2, hM_M_slots_0]
    unfold bX_D_readSlots_2 bM_M_slots_0
    rw [if_neg (show ¬ (160 : Int32) ≤ nI j from nI_ge (show j < 160 by omega) (by decide)), xk_st (d + 5) 32 hm ha hx, zcI_some]
    obtain ⟨p1, p2⟩ := mk_is (e + 4) 32 (by decide) hk hm ha ht
  · have hne : ¬ tkC m T a 32 := fun e => by have := e.1; omega
    rw [p2 hne, zcI_some, zBp_f hne, if_pos (show (0 : Int32) = 0 from rfl), zbo_1]
    rw [if_pos (show (0 : Int32) = 0 from rfl), zbo_1]
    exact Or.inl ⟨W, a, s, t, rfl, rfl, hv, Nat.le_refl _⟩
  · by_cases hne : tkC m T a 32
    · have hl := hne.1
      rw [p1 hne, zcI_some, zBp_t hne, if_neg o1, if_neg o1]
      dsimp only
      rw [hx.1, hx.2.1, nI_1]
      have fx1 : kFX s (zs s 42 3 (nI (a + 1))) := kFX_z (kFX_r s) (by decide)
      have fm1 : kFM t (zs t 0 18 (nI (a + 1))) := kFM_z (kFM_r t) (by decide)
      have hx1 := ktX_go hx fx1 zgz_eq
      have ht1 := ktM_go ht fm1 zgz_eq
      have hv1 := rv_go hv fx1 fm1 zgz_eq zgz_eq (show a + 1 ≤ m by omega)
      have q97 : (97 : Int32).toInt = 97 := by decide
      have q113 : (113 : Int32).toInt = 113 := by decide
      have q112 : (112 : Int32).toInt = 112 := by decide
      have qm1 : (-1 : Int32).toInt = -1 := by decide
      generalize hs1 : zs s 42 3 (nI (a + 1)) = s1 at fx1 hx1 hv1 ⊢
      generalize ht1' : zs t 0 18 (nI (a + 1)) = t1 at fm1 ht1 hv1 ⊢
      rw [mk_sg (e + 5) hk hm (show a + 1 ≤ m by omega) ht1, zcI_some, sM_within, zcI_some]
      by_cases hlet : a + 1 < m ∧ 97 ≤ (T (a + 1)).toInt ∧ (T (a + 1)).toInt ≤ 112
      · obtain ⟨hl1, l1, l2⟩ := hlet
        obtain ⟨i, hi, ei⟩ := kn_c (x := T (a + 1)) (lo := 97) (hi := 112) (by decide) l1 l2
        have hi16 : i < 16 := by omega
        have fx2 : kFX s1 (zs s1 42 3 (nI (a + 2))) := kFX_z (kFX_r s1) (by decide)
        have fm2 : kFM t1 (zs t1 0 18 (nI (a + 2))) := kFM_z (kFM_r t1) (by decide)
        have hx2 := ktX_go hx1 fx2 zgz_eq
        have ht2 := ktM_go ht1 fm2 zgz_eq
        have hv2 := rv_go hv1 fx2 fm2 zgz_eq zgz_eq (show a + 2 ≤ m by omega)
        have eT : tkS m T (a + 1) = T (a + 1) := if_pos hl1
        have ein : T (a + 1) - 97 = nI i := ei
        rw [zBp_t (show (97 : Int32).toInt ≤ (tkS m T (a + 1)).toInt ∧ (tkS m T (a + 1)).toInt ≤ (112 : Int32).toInt by rw [eT, q97, q112]; exact ⟨l1, l2⟩), if_pos o1, mk_sg (e + 5) hk hm (show a + 1 ≤ m by omega) ht1, zcI_some]
        rw [ht1.2.2.2, nI_1, if_neg (nI_ge hl1 (by omega)), zin_nI (show a + 1 < 160 by omega) (by decide), zin_nI (show a + 1 < 160 by omega) (by decide), zin_nI (show a + 1 < 160 by omega) (by decide), nI_clamp (show a + 1 < 2 ^ 31 by omega), hx.2.2 (a + 1) hl1, if_neg (show ¬ T (a + 1) < 97 by rw [zlt]; omega), if_pos (show T (a + 1) < 113 by rw [zlt]; omega), nI_1, eT, ein]
        generalize hs2 : zs s1 42 3 (nI (a + 2)) = s2 at fx2 hx2 hv2 ⊢
        generalize ht2' : zs t1 0 18 (nI (a + 2)) = t2 at fm2 ht2 hv2 ⊢
        rw [mk_sg (e + 5) hk hm (show a + 2 ≤ m by omega) ht2, zcI_some, xk_st (d + 5) 58 hm (show a + 2 ≤ m by omega) hx2, zcI_some]
        by_cases hc : tkC m T (a + 2) 58
        · have hlc := hc.1
          have fx3 : kFX s2 (zs s2 42 3 (nI (a + 3))) := kFX_z (kFX_r s2) (by decide)
          have fm3 : kFM t2 (zs t2 0 18 (nI (a + 3))) := kFM_z (kFM_r t2) (by decide)
          have hx3 := ktX_go hx2 fx3 zgz_eq
          have ht3 := ktM_go ht2 fm3 zgz_eq
          have hv3 := rv_go hv2 fx3 fm3 zgz_eq zgz_eq (show a + 3 ≤ m by omega)
          rw [zBp_t hc, if_neg o1, if_neg (fun e => e ((tkS_c (by decide)).mpr hc)), if_neg o1, ht2.2.2.2, nI_1, aX_D_readMethod]
          unfold bX_D_readMethod_0
          dsimp only
          rw [hx2.2.1, nI_1]
          generalize hs3 : zs s2 42 3 (nI (a + 3)) = s3 at fx3 hx3 hv3 ⊢
          generalize ht3' : zs t2 0 18 (nI (a + 3)) = t3 at fm3 ht3 hv3 ⊢
          rw [xk_dg (d + 4) hm (show a + 3 ≤ m by omega) hx3, zcI_some]
          obtain ⟨c1, c2⟩ := mk_d2 (e + 3) (9 : Int32) hk hm (show a + 3 ≤ m by omega) ht3
          by_cases hd : tkD m T (a + 3)
          · obtain ⟨hl3, d1, d2⟩ := id hd
            obtain ⟨c, hc9, ec⟩ := kn_c (x := T (a + 3)) (lo := 48) (hi := 57) (by decide) d1 d2
            have ecn : T (a + 3) - 48 = nI c := ec
            have c10 : c < 10 := by omega
            have fx4 : kFX s3 (zs s3 42 3 (nI (a + 4))) := kFX_z (kFX_r s3) (by decide)
            have fm4 : kFM t3 (zs (zs t3 0 19 (nI c)) 0 18 (nI (a + 4))) := kFM_z (kFM_z (kFM_r t3) (by decide)) (by decide)
            have hx4 := ktX_go hx3 fx4 zgz_eq
            have ht4 := ktM_go ht3 fm4 zgz_eq
            have hv4 := rv_go hv3 fx4 fm4 zgz_eq zgz_eq (show a + 4 ≤ m by omega)
            have e19 : zg (zs (zs t3 0 19 (nI c)) 0 18 (nI (a + 4))) 0 19 = nI c := (zgz_nj (by decide)).trans zgz_eq
            rw [zBp_t hd, if_pos o1, hx3.2.1, zin_nI (show a + 3 < 160 by omega) (by decide), nI_clamp (show a + 3 < 2 ^ 31 by omega), hx3.2.2 (a + 3) hl3, nI_1, ecn, c1 hd (by rw [ecn]; exact nI_le (b := 9) (by omega) (by decide)), zcI_some, if_pos o1, ecn]
            generalize hs4 : zs s3 42 3 (nI (a + 4)) = s4 at fx4 hx4 hv4 ⊢
            generalize ht4' : zs (zs t3 0 19 (nI c)) 0 18 (nI (a + 4)) = t4 at fm4 ht4 hv4 e19 ⊢
            obtain ⟨u1, u2⟩ := mk_is (e + 4) 46 (by decide) hk hm (show a + 4 ≤ m by omega) ht4
            rcases xk_ps (d + 3) 46 hm (show a + 4 ≤ m by omega) hx4 with ⟨g1, g2, g3⟩ | ⟨g1, g2⟩
            · have fx5 : kFX s4 (zs s4 42 3 (nI (a + 5))) := kFX_z (kFX_r s4) (by decide)
              have fm5 : kFM t4 (zs t4 0 18 (nI (a + 5))) := kFM_z (kFM_r t4) (by decide)
              have hx5 := ktX_go hx4 fx5 zgz_eq
              have ht5 := ktM_go ht4 fm5 zgz_eq
              have hv5 := rv_go hv4 fx5 fm5 zgz_eq zgz_eq g2
              rw [g3, zcI_some, if_neg o1, u1 g1, zcI_some, if_pos o1, e19]
              generalize hs5 : zs s4 42 3 (nI (a + 5)) = s5 at fx5 hx5 hv5 ⊢
              generalize ht5' : zs t4 0 18 (nI (a + 5)) = t5 at fm5 ht5 hv5 ⊢
              rcases jk_sn (d + 3) (e + 2) hk hm g2 hx5 ht5 with ⟨b, s6, t6, b1, b2, b3, b4, b5, b6, b7, b8, b9⟩ | ⟨b, s6, t6, b1, b3, b4, b5, b6, b8⟩
              · have hv6 := rv_go hv5 b5 b6 b7 b8 b2
                have hv7 := rv_put (i := i) (g := 2) (f := nI c) (v := zg t6 0 19) hv6 ho hi16 (Or.inr rfl) (fun _ => ⟨c, c10, rfl⟩) (fun e => absurd e (by decide))
                have hM6 := aM_ofz hv6.1 hv6.2.2.1
                rw [b3, zcI_some, if_pos o1, b4, zcI_some, if_pos o1, b9, sX_putMethod (d + 4) o i (nI c) (zg t6 0 19) s6 ho16 hi16, zcV_some, zbo_1, zcI_some, if_neg o1, sM_hold1 (e + 5) o i (nI c) (zg t6 0 19) t6 hv6.1 hM6 hoW hi16, zcV_some]
                rcases ih (j + 1) K L _ b _ _ hv7 hoW (by omega) (by omega) (by omega) (by omega) with ⟨W', b', s', t', r1, r2, r3, r4⟩ | ⟨s', t', r1, r2, r3⟩
                · exact Or.inl ⟨W', b', s', t', r1, r2, r3, by omega⟩
                · exact Or.inr ⟨s', t', r1, r2, r3⟩
              · refine Or.inr ⟨_, _, ?_, ?_, rv_bad hv5 hm b5 b6 b8 b1⟩
                · rw [b3, zcI_some, if_neg z0, zbo_0, zcI_some, if_pos (show (0 : Int32) = 0 from rfl), zbo_0]
                · rw [b4, zcI_some, if_neg z0, zbo_0]
            · refine Or.inr ⟨_, _, ?_, ?_, rv_bad hv4 hm (kFX_r _) (kFM_r _) ht4.2.2.2 (show a + 4 ≤ m by omega)⟩
              · rw [g2, zcI_some, if_pos (show (0 : Int32) = 0 from rfl), zbo_0, zcI_some, if_pos (show (0 : Int32) = 0 from rfl), zbo_0]
              · rw [u2 g1, zcI_some, if_neg z0, zbo_0]
          · refine Or.inr ⟨_, _, ?_, ?_, rv_bad hv3 hm (kFX_r _) (kFM_r _) ht3.2.2.2 (show a + 3 ≤ m by omega)⟩
            · rw [zBp_f hd, if_neg z0, hx3.2.1, xk_mf, zcI_some, zbo_0, zcI_some, if_pos (show (0 : Int32) = 0 from rfl), zbo_0]
            · rw [c2 (fun e => hd e.1), zcI_some, if_neg z0, zbo_0]
        · obtain ⟨u1, u2⟩ := mk_is (e + 4) 61 (by decide) hk hm (show a + 2 ≤ m by omega) ht2
          rw [zBp_f hc, if_pos (show (0 : Int32) = 0 from rfl), if_pos (show ¬ tkS m T (a + 2) = 58 from fun e => hc ((tkS_c (by decide)).mp e)), if_pos (show (0 : Int32) = 0 from rfl), aX_D_readValue]
          unfold bX_D_readValue_0
          rcases xk_ps (d + 3) 61 hm (show a + 2 ≤ m by omega) hx2 with ⟨g1, g2, g3⟩ | ⟨g1, g2⟩
          · have fx3 : kFX s2 (zs s2 42 3 (nI (a + 3))) := kFX_z (kFX_r s2) (by decide)
            have fm3 : kFM t2 (zs t2 0 18 (nI (a + 3))) := kFM_z (kFM_r t2) (by decide)
            have hx3 := ktX_go hx2 fx3 zgz_eq
            have ht3 := ktM_go ht2 fm3 zgz_eq
            have hv3 := rv_go hv2 fx3 fm3 zgz_eq zgz_eq g2
            rw [g3, zcI_some, if_neg o1, u1 g1, zcI_some, if_pos o1]
            generalize hs3 : zs s2 42 3 (nI (a + 3)) = s3 at fx3 hx3 hv3 ⊢
            generalize ht3' : zs t2 0 18 (nI (a + 3)) = t3 at fm3 ht3 hv3 ⊢
            rcases jk_sn (d + 3) (e + 2) hk hm g2 hx3 ht3 with ⟨b, s6, t6, b1, b2, b3, b4, b5, b6, b7, b8, b9⟩ | ⟨b, s6, t6, b1, b3, b4, b5, b6, b8⟩
            · have hv6 := rv_go hv3 b5 b6 b7 b8 b2
              have hv7 := rv_put (i := i) (g := 1) (f := 0) (v := zg t6 0 19) hv6 ho hi16 (Or.inl rfl) (fun e => absurd e (by decide)) (fun _ => rfl)
              have hM6 := aM_ofz hv6.1 hv6.2.2.1
              rw [b3, zcI_some, if_pos o1, b4, zcI_some, if_pos o1, b9, sX_putValue (d + 4) o i (zg t6 0 19) s6 ho16 hi16, zcV_some, zbo_1, zcI_some, if_pos o1, sM_hold0 (e + 5) o i (zg t6 0 19) t6 hv6.1 hM6 hoW hi16, zcV_some]
              rcases ih (j + 1) K L _ b _ _ hv7 hoW (by omega) (by omega) (by omega) (by omega) with ⟨W', b', s', t', r1, r2, r3, r4⟩ | ⟨s', t', r1, r2, r3⟩
              · exact Or.inl ⟨W', b', s', t', r1, r2, r3, by omega⟩
              · exact Or.inr ⟨s', t', r1, r2, r3⟩
            · refine Or.inr ⟨_, _, ?_, ?_, rv_bad hv3 hm b5 b6 b8 b1⟩
              · rw [b3, zcI_some, if_neg z0, zbo_0, zcI_some, if_neg z0, zbo_0]
              · rw [b4, zcI_some, if_neg z0, zbo_0]
          · refine Or.inr ⟨_, _, ?_, ?_, rv_bad hv2 hm (kFX_r _) (kFM_r _) ht2.2.2.2 (show a + 2 ≤ m by omega)⟩
            · rw [g2, zcI_some, if_pos (show (0 : Int32) = 0 from rfl), zbo_0, zcI_some, if_neg z0, zbo_0]
            · rw [u2 g1, zcI_some, if_neg z0, zbo_0]
      · refine Or.inr ⟨zs s1 42 4 (nI (a + 1)), t1, ?_, ?_, rv_bad hv1 hm (kFX_r _) (kFM_r _) ht1.2.2.2 (by omega)⟩
        · by_cases hl1 : a + 1 < m
          · rw [if_neg (nI_ge hl1 (by omega)), zin_nI (show a + 1 < 160 by omega) (by decide), zin_nI (show a + 1 < 160 by omega) (by decide), nI_clamp (show a + 1 < 2 ^ 31 by omega), hx.2.2 (a + 1) hl1]
            by_cases l1 : T (a + 1) < 97
            · rw [if_pos l1, xk_mf, zcI_some, zbo_0]
            · rw [if_neg l1, if_neg (show ¬ T (a + 1) < 113 by rw [zlt] at l1 ⊢; exact fun e => hlet ⟨hl1, by omega, by omega⟩), xk_mf, zcI_some, zbo_0]
          · rw [if_pos (nI_le (show m ≤ a + 1 by omega) (by omega)), xk_mf, zcI_some, zbo_0]
        · rw [zBp_f, if_neg z0, zbo_0]
          unfold tkS
          rintro ⟨e1, e2⟩
          by_cases hl1 : a + 1 < m
          · rw [if_pos hl1] at e1 e2
            exact hlet ⟨hl1, by omega, by omega⟩
          · rw [if_neg hl1] at e1
            omega
    · rw [p2 hne, zcI_some, zBp_f hne, if_pos (show (0 : Int32) = 0 from rfl), zbo_1]
      rw [if_pos (show (0 : Int32) = 0 from rfl), zbo_1]
      exact Or.inl ⟨W, a, s, t, rfl, rfl, hv, Nat.le_refl _⟩
