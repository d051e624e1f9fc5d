/-! READ: numbers -/
theorem xk_num {m : Nat} {T : Nat → Int32} {a : Nat} {s : zS} (d : Nat) (hm : m ≤ 160) (ha : a ≤ m) (h : ktX m T a s) : (¬ tkD m T a → zcall zMs skX (d + 2) 23 [.inr (.inr 42), .inl 0] s = some (some (.inl 0), zs s 42 4 (nI a))) ∧ (tkD m T a → ¬ tkD m T (a + 1) → ∃ s', zcall zMs skX (d + 2) 23 [.inr (.inr 42), .inl 0] s = some (some (.inl 1), s') ∧ kFX s s' ∧ zg s' 42 3 = nI (a + 1) ∧ zg s' 42 5 = T a - 48) ∧ (tkD m T a → tkD m T (a + 1) → ∃ s', zcall zMs skX (d + 2) 23 [.inr (.inr 42), .inl 0] s = some (some (.inl 1), s') ∧ kFX s s' ∧ zg s' 42 3 = nI (a + 2) ∧ zg s' 42 5 = (T a - 48) * 10 + T (a + 1) - 48) := by
  have e0 : zcall zMs skX (d + 2) 23 [.inr (.inr 42), .inl 0] s = bX_D_readNumber_8 (zcall zMs skX (d + 1)) (zexec skX (zcall zMs skX (d + 1)) zT_D_readNumber 3 19998) s := by
    rw [aX_D_readNumber]
    unfold bX_D_readNumber_0
    rw [if_pos (show (0 : Int32) = 0 from rfl), hX_D_readNumber_8 _ 19998]
  rw [e0]
  unfold bX_D_readNumber_8
  rw [if_pos (show (0 : Int32) = 0 from rfl), xk_dg d hm ha h, zcI_some]
  refine ⟨fun e => ?_, fun e e2 => ?_, fun e e2 => ?_⟩
  · rw [zBp_f e, if_neg z0, h.2.1, xk_mf, zcI_some, zbo_0]
  · have hl := e.1
    have f1 : kFX s (zs (zs s 42 5 (T a - 48)) 42 3 (nI (a + 1))) := kFX_z (kFX_z (kFX_r s) (Or.inr rfl)) (Or.inl rfl)
    have h1 : ktX m T (a + 1) (zs (zs s 42 5 (T a - 48)) 42 3 (nI (a + 1))) := ktX_go h f1 zgz_eq
    refine ⟨_, ?_, f1, zgz_eq, (zgz_nj (by decide)).trans zgz_eq⟩
    rw [zBp_t e, if_pos o1, h.2.1, zin_nI (show a < 160 by omega) (by decide), nI_clamp (show a < 2 ^ 31 by omega), h.2.2 a hl]
    dsimp only
    rw [nI_1, xk_dg d hm (by omega) h1, zcI_some, zBp_f e2, if_pos (show (0 : Int32) = 0 from rfl), if_pos (show (0 : Int32) = 0 from rfl), zbo_1]
  · have hl := e.1
    have hl2 := e2.1
    have f1 : kFX s (zs (zs s 42 5 (T a - 48)) 42 3 (nI (a + 1))) := kFX_z (kFX_z (kFX_r s) (Or.inr rfl)) (Or.inl rfl)
    have h1 : ktX m T (a + 1) (zs (zs s 42 5 (T a - 48)) 42 3 (nI (a + 1))) := ktX_go h f1 zgz_eq
    have g5 : zg (zs (zs s 42 5 (T a - 48)) 42 3 (nI (a + 1))) 42 5 = T a - 48 := (zgz_nj (by decide)).trans zgz_eq
    refine ⟨_, ?_, kFX_z (i := 3) (v := nI (a + 2)) (kFX_z (i := 5) (v := (T a - 48) * 10 + T (a + 1) - 48) f1 (Or.inr rfl)) (Or.inl rfl), zgz_eq, (zgz_nj (by decide)).trans zgz_eq⟩
    rw [zBp_t e, if_pos o1, h.2.1, zin_nI (show a < 160 by omega) (by decide), nI_clamp (show a < 2 ^ 31 by omega), h.2.2 a hl]
    dsimp only
    rw [nI_1, xk_dg d hm (by omega) h1, zcI_some, zBp_t e2, if_neg o1, h1.2.1, zin_nI (show a + 1 < 160 by omega) (by decide), nI_clamp (show a + 1 < 2 ^ 31 by omega), h1.2.2 (a + 1) hl2, g5, nI_1, if_pos (show (0 : Int32) = 0 from rfl), zbo_1]
theorem xk_sn {m : Nat} {T : Nat → Int32} {a : Nat} {s : zS} (d : Nat) (hm : m ≤ 160) (ha : a ≤ m) (h : ktX m T a s) : (¬ tkC m T a 45 → zcall zMs skX (d + 2) 23 [.inr (.inr 42), .inl 1] s = zcall zMs skX (d + 2) 23 [.inr (.inr 42), .inl 0] s) ∧ (tkC m T a 45 → (¬ tkD m T (a + 1) → zcall zMs skX (d + 2) 23 [.inr (.inr 42), .inl 1] s = some (some (.inl 0), zs (zs s 42 3 (nI (a + 1))) 42 4 (nI (a + 1)))) ∧ (tkD m T (a + 1) → ¬ tkD m T (a + 2) → ∃ s', zcall zMs skX (d + 2) 23 [.inr (.inr 42), .inl 1] s = some (some (.inl 1), s') ∧ kFX s s' ∧ zg s' 42 3 = nI (a + 2) ∧ zg s' 42 5 = -(T (a + 1) - 48)) ∧ (tkD m T (a + 1) → tkD m T (a + 2) → ∃ s', zcall zMs skX (d + 2) 23 [.inr (.inr 42), .inl 1] s = some (some (.inl 1), s') ∧ kFX s s' ∧ zg s' 42 3 = nI (a + 3) ∧ zg s' 42 5 = -((T (a + 1) - 48) * 10 + T (a + 2) - 48))) := by
  refine ⟨fun e => ?_, fun e => ?_⟩
  · rw [aX_D_readNumber, aX_D_readNumber]
    unfold bX_D_readNumber_0
    rw [if_neg o1, if_pos (show (0 : Int32) = 0 from rfl), xk_st d 45 hm ha h, zcI_some, zBp_f e, if_pos (show (0 : Int32) = 0 from rfl)]
  · have hl0 := e.1
    have f0 : kFX s (zs s 42 3 (nI (a + 1))) := kFX_z (kFX_r s) (Or.inl rfl)
    have h0 : ktX m T (a + 1) (zs s 42 3 (nI (a + 1))) := ktX_go h f0 zgz_eq
    rw [aX_D_readNumber]
    unfold bX_D_readNumber_0
    rw [if_neg o1, xk_st d 45 hm ha h, zcI_some, zBp_t e, if_neg o1, if_neg o1]
    dsimp only
    rw [h.2.1, nI_1, xk_dg d hm (by omega) h0, zcI_some]
    refine ⟨fun e => ?_, fun e e2 => ?_, fun e e2 => ?_⟩
    · rw [zBp_f e, if_neg z0, h0.2.1, xk_mf, zcI_some, zbo_0]
    · have hl := e.1
      have f1 : kFX s (zs (zs (zs s 42 3 (nI (a + 1))) 42 5 (T (a + 1) - 48)) 42 3 (nI (a + 2))) := kFX_z (kFX_z f0 (Or.inr rfl)) (Or.inl rfl)
      have h1 : ktX m T (a + 2) (zs (zs (zs s 42 3 (nI (a + 1))) 42 5 (T (a + 1) - 48)) 42 3 (nI (a + 2))) := ktX_go h f1 zgz_eq
      have g5 : zg (zs (zs (zs s 42 3 (nI (a + 1))) 42 5 (T (a + 1) - 48)) 42 3 (nI (a + 2))) 42 5 = T (a + 1) - 48 := (zgz_nj (by decide)).trans zgz_eq
      refine ⟨_, ?_, kFX_z (i := 5) (v := -(T (a + 1) - 48)) f1 (Or.inr rfl), (zgz_nj (by decide)).trans zgz_eq, zgz_eq⟩
      rw [zBp_t e, if_pos o1, h0.2.1, zin_nI (show a + 1 < 160 by omega) (by decide), nI_clamp (show a + 1 < 2 ^ 31 by omega), h0.2.2 (a + 1) hl]
      rw [nI_1, xk_dg d hm (by omega) h1, zcI_some, zBp_f e2, if_pos (show (0 : Int32) = 0 from rfl), if_neg o1, g5, zbo_1]
    · have hl := e.1
      have hl2 := e2.1
      have f1 : kFX s (zs (zs (zs s 42 3 (nI (a + 1))) 42 5 (T (a + 1) - 48)) 42 3 (nI (a + 2))) := kFX_z (kFX_z f0 (Or.inr rfl)) (Or.inl rfl)
      have h1 : ktX m T (a + 2) (zs (zs (zs s 42 3 (nI (a + 1))) 42 5 (T (a + 1) - 48)) 42 3 (nI (a + 2))) := ktX_go h f1 zgz_eq
      have g5 : zg (zs (zs (zs s 42 3 (nI (a + 1))) 42 5 (T (a + 1) - 48)) 42 3 (nI (a + 2))) 42 5 = T (a + 1) - 48 := (zgz_nj (by decide)).trans zgz_eq
      refine ⟨_, ?_, kFX_z (i := 5) (v := -((T (a + 1) - 48) * 10 + T (a + 2) - 48)) (kFX_z (i := 3) (v := nI (a + 3)) (kFX_z (i := 5) (v := (T (a + 1) - 48) * 10 + T (a + 2) - 48) f1 (Or.inr rfl)) (Or.inl rfl)) (Or.inr rfl), (zgz_nj (by decide)).trans zgz_eq, zgz_eq⟩
      rw [zBp_t e, if_pos o1, h0.2.1, zin_nI (show a + 1 < 160 by omega) (by decide), nI_clamp (show a + 1 < 2 ^ 31 by omega), h0.2.2 (a + 1) hl]
      rw [nI_1, xk_dg d hm (by omega) h1, zcI_some, zBp_t e2, if_neg o1, h1.2.1, zin_nI (show a + 2 < 160 by omega) (by decide), nI_clamp (show a + 2 < 2 ^ 31 by omega), h1.2.2 (a + 2) hl2, g5, nI_1, if_neg o1, zbo_1]
theorem mk_num {k m : Nat} {T : Nat → Int32} {a : Nat} {t : zS} (d : Nat) (hk : k < 8) (hm : m ≤ 160) (ha : a ≤ m) (h : ktM k m T a t) : (¬ tkD m T a → ∃ t', zcall zMs skM (d + 3) 154 [.inr (.inr 0)] t = some (some (.inl 0), t') ∧ kFM t t' ∧ zg t' 0 18 = nI a ∧ zg t' 0 20 = nI a) ∧ (tkD m T a → ¬ tkD m T (a + 1) → ∃ t', zcall zMs skM (d + 3) 154 [.inr (.inr 0)] t = some (some (.inl 1), t') ∧ kFM t t' ∧ zg t' 0 18 = nI (a + 1) ∧ zg t' 0 20 = nI a ∧ zg t' 0 19 = T a - 48) ∧ (tkD m T a → tkD m T (a + 1) → ∃ t', zcall zMs skM (d + 3) 154 [.inr (.inr 0)] t = some (some (.inl 1), t') ∧ kFM t t' ∧ zg t' 0 18 = nI (a + 2) ∧ zg t' 0 20 = nI a ∧ zg t' 0 19 = (T a - 48) * 10 + T (a + 1) - 48) := by
  have f0 : kFM t (zs (zs t 0 20 (nI a)) 0 19 0) := kFM_z (kFM_z (kFM_r t) (by decide)) (by decide)
  have g18 : zg (zs (zs t 0 20 (nI a)) 0 19 0) 0 18 = nI a := (zgz_nj (by decide)).trans ((zgz_nj (by decide)).trans h.2.2.2)
  have g20 : zg (zs (zs t 0 20 (nI a)) 0 19 0) 0 20 = nI a := (zgz_nj (by decide)).trans zgz_eq
  have g19 : zg (zs (zs t 0 20 (nI a)) 0 19 0) 0 19 = 0 := zgz_eq
  have h0 := ktM_go h f0 g18
  have e0 : zcall zMs skM (d + 3) 154 [.inr (.inr 0)] t = zexec skM (zcall zMs skM (d + 2)) zT_M_isNumber 3 19999 7 [some (.inr (.inr 0))] [] (zs (zs t 0 20 (nI a)) 0 19 0) := by
    rw [aM_M_isNumber]
    unfold bM_M_isNumber_0
    dsimp only
    rw [h.2.2.2]
  have z10 : (10 : Int32) * 0 + T a - 48 = T a - 48 := by rw [Int32.mul_zero, Int32.zero_add]
  rw [e0]
  generalize (zs (zs t 0 20 (nI a)) 0 19 0) = u at f0 g18 g20 g19 h0
  rw [hM_M_isNumber_7 _ 19998]
  unfold bM_M_isNumber_7
  rw [g18, g20, pk_sub (Nat.le_refl a), if_neg (show ¬ (2 : Int32) ≤ nI (a - a) from nI_ge (show a - a < 2 by omega) (by decide)), mk_dg d hk hm ha h0, zcI_some]
  refine ⟨fun e => ?_, fun e e2 => ?_, fun e e2 => ?_⟩
  · refine ⟨u, ?_, f0, g18, g20⟩
    rw [zBp_f e, if_pos (show (0 : Int32) = 0 from rfl), g18, g20, if_pos (nI_le (Nat.le_refl a) (by omega)), zbo_0]
  · have hl := e.1
    have f1 : kFM t (zs (zs u 0 19 (T a - 48)) 0 18 (nI (a + 1))) := kFM_z (kFM_z f0 (by decide)) (by decide)
    have k18 : zg (zs (zs u 0 19 (T a - 48)) 0 18 (nI (a + 1))) 0 18 = nI (a + 1) := zgz_eq
    have k20 : zg (zs (zs u 0 19 (T a - 48)) 0 18 (nI (a + 1))) 0 20 = nI a := (zgz_nj (by decide)).trans ((zgz_nj (by decide)).trans g20)
    have k19 : zg (zs (zs u 0 19 (T a - 48)) 0 18 (nI (a + 1))) 0 19 = T a - 48 := (zgz_nj (by decide)).trans zgz_eq
    have h1 := ktM_go h f1 k18
    refine ⟨_, ?_, f1, k18, k20, k19⟩
    rw [zBp_t e, if_neg o1, mk_sg (d + 1) hk hm ha h0, zcI_some]
    dsimp only
    rw [g19, show tkS m T a = T a from if_pos hl, z10, g18, nI_1, hM_M_isNumber_7 _ 19997]
    unfold bM_M_isNumber_7
    rw [k18, k20, pk_sub (Nat.le_succ a), if_neg (show ¬ (2 : Int32) ≤ nI (a + 1 - a) from nI_ge (show a + 1 - a < 2 by omega) (by decide)), mk_dg d hk hm (by omega) h1, zcI_some, zBp_f e2, if_pos (show (0 : Int32) = 0 from rfl), k18, k20, if_neg (nI_ge (show a < a + 1 by omega) (by omega)), zbo_1]
  · have hl := e.1
    have hl2 := e2.1
    have f1 : kFM t (zs (zs u 0 19 (T a - 48)) 0 18 (nI (a + 1))) := kFM_z (kFM_z f0 (by decide)) (by decide)
    have k18 : zg (zs (zs u 0 19 (T a - 48)) 0 18 (nI (a + 1))) 0 18 = nI (a + 1) := zgz_eq
    have k20 : zg (zs (zs u 0 19 (T a - 48)) 0 18 (nI (a + 1))) 0 20 = nI a := (zgz_nj (by decide)).trans ((zgz_nj (by decide)).trans g20)
    have k19 : zg (zs (zs u 0 19 (T a - 48)) 0 18 (nI (a + 1))) 0 19 = T a - 48 := (zgz_nj (by decide)).trans zgz_eq
    have h1 := ktM_go h f1 k18
    refine ⟨zs (zs (zs (zs u 0 19 (T a - 48)) 0 18 (nI (a + 1))) 0 19 ((T a - 48) * 10 + T (a + 1) - 48)) 0 18 (nI (a + 2)), ?_, kFM_z (kFM_z f1 (by decide)) (by decide), zgz_eq, (zgz_nj (by decide)).trans ((zgz_nj (by decide)).trans k20), (zgz_nj (by decide)).trans zgz_eq⟩
    rw [zBp_t e, if_neg o1, mk_sg (d + 1) hk hm ha h0, zcI_some]
    dsimp only
    rw [g19, show tkS m T a = T a from if_pos hl, z10, g18, nI_1, hM_M_isNumber_7 _ 19997]
    unfold bM_M_isNumber_7
    rw [k18, k20, pk_sub (Nat.le_succ a), if_neg (show ¬ (2 : Int32) ≤ nI (a + 1 - a) from nI_ge (show a + 1 - a < 2 by omega) (by decide)), mk_dg d hk hm (by omega) h1, zcI_some, zBp_t e2, if_neg o1, mk_sg (d + 1) hk hm (by omega) h1, zcI_some]
    rw [k19, show tkS m T (a + 1) = T (a + 1) from if_pos hl2, k18, nI_1, Int32.mul_comm 10, hM_M_isNumber_7 _ 19996]
    unfold bM_M_isNumber_7
    rw [zgz_eq, zgz_nj (show (20 : Nat) ≠ 18 by decide), zgz_nj (show (20 : Nat) ≠ 19 by decide), k20, pk_sub (show a ≤ a + 1 + 1 by omega), if_pos (show (2 : Int32) ≤ nI (a + 1 + 1 - a) from nI_le (show 2 ≤ a + 1 + 1 - a by omega) (by omega)), if_neg (nI_ge (show a < a + 1 + 1 by omega) (by omega)), zbo_1]
