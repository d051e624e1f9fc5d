/-! what a METHOD that runs comes to, and a come, by the class's runner -/
theorem uLeave_1 (s : zS) (D : Nat) (q : cFm) (j : Nat) (hj : j ≠ 14) : zg (uLeave s D q) 1 j = zg s 1 j := by
  unfold uLeave
  rw [zgz_nj hj, zgz_ne (by decide), zgz_ne (by decide), zgz_ne (by decide), zgz_ne (by decide)]
theorem uCm_mk {s : zS} {C S I : Int32} (x : Int32) {c sl ix : Nat} (hC : C = nI c) (hS : S = nI sl) (hI : I = nI ix) : uCm (uCome s C S I x) c sl ix x := ⟨rfl, hC, hS, hI, rfl⟩
theorem sX_isFirm {W : aW} (d o : Nat) (s : zS) (hf : aWf W) (hX : aX 2 s W) (ho : o < aN W) : zcall zMs skX (d + 1) 66 [.inr (.inr 2), .inl (nI o), .inl 1] s = some (some (.inl (zBp (aK W o = 1 ∨ aK W o = 3))), s) := by
  have h16 := aWf_lt hf ho
  have hk : zg s 3 o = nI (aK W o) := (hX.2.2.2.1 o ho).1
  have hk4 := (hf.2.2.1 o ho).1
  rw [aX_W_isOfKind]
  unfold bX_W_isOfKind_0
  rw [if_neg (show ¬ (1 : Int32) = 0 by decide), zin_nI h16 (by decide), nI_clamp (by omega), hk]
  by_cases h1 : aK W o = 1
  · rw [h1, if_pos nIe1, zBp_t (Or.inl rfl), zbo_1]
  · rw [if_neg (show ¬ nI (aK W o) = (1 : Int32) from fun h => h1 ((nI_i3 (by omega) 1 (by omega)).mp h)), if_neg (show ¬ ¬ (1 : Int32) = 1 by decide), zin_nI h16 (by decide)]
    by_cases h3 : aK W o = 3
    · rw [h3, if_neg (show ¬ ¬ nI 3 = (3 : Int32) by decide), zBp_t (Or.inr rfl), zbo_1]
    · rw [if_pos (show ¬ nI (aK W o) = (3 : Int32) from fun h => h3 ((nI_i3 (by omega) 3 (by omega)).mp h)), zBp_f (by omega), zbo_0]
def uPre (W : aW) (o : Nat) (A : Nat → List Nat) (s0 : zS) (n c sl ix : Nat) (e : eT) (F : List cFm) : Prop :=
  eOk W o e ∧ sl < 16 ∧ ix ≤ 32 ∧ (c = 4 → ix ≤ (aO W o).length) ∧ (c ≠ 4 → cA W s0 A) ∧ c ≤ 5 ∧ 201 + (if c = 3 then 1 else 0) ≤ n + e.2.1 ∧ F.length ≤ e.2.1 + (if c = 3 then 0 else 1)
def cEv (W : aW) (o : Nat) (A : Nat → List Nat) (k0 : Nat) (s0 : zS) (d n : Nat) (E : eE) : Prop :=
  ∀ (c sl ix : Nat) (x : Int32) (e : eT) (F : List cFm) (s : zS), uPre W o A s0 n c sl ix e F → cQ W o k0 s0 s e → cF s F → uCm s c sl ix x → cR W o k0 s0 d F s e 5 5 (E c sl ix x e) ∧ (c < 4 → ix < (A c).length → cR W o k0 s0 d F s e 0 4 (E c sl ix x e))
theorem cDo {W : aW} {o k0 d n : Nat} {A : Nat → List Nat} {s0 : zS} {E : eE} (ho : o < aN W) (hE : cEv W o A k0 s0 d n E) (hP : ∀ c sl ix x e, eOk W o e → ePo W o A e (E c sl ix x e)) (c sl ix : Nat) (f k x : Int32) (e : eT) (F : List cFm) (s : zS) (hok : eOk W o e) (hs : sl < 16) (hix : ix ≤ 32) (hc4 : c = 4 → ix ≤ (aO W o).length) (hcA : c ≠ 4 → cA W s0 A) (hc5 : c ≤ 5) (hfu : 201 + (if c = 3 then 1 else 0) ≤ n + e.2.1) (hFl : F.length + 1 ≤ e.2.1 + (if c = 3 then 0 else 1)) (hQ : cQ W o k0 s0 s e) (hF : cF s F) (hR : uRn s c sl ix f k x) : cR W o k0 s0 d F s e 9 9 (eDo E W o c sl ix f k x e) := by
  obtain ⟨h6, h8, h9, h10, h5, h11, h12⟩ := hR
  have hFl1 : F.length + 1 ≤ e.2.1 + 1 := by split at hFl <;> omega
  have hfu1 : 201 ≤ n + e.2.1 := by split at hfu <;> omega
  have hD : F.length ≤ 200 := by have := hok.2.1; omega
  have pre1 : ∀ (e' : eT) (F' : List cFm), eOk W o e' → e.2.1 ≤ e'.2.1 → F'.length ≤ F.length + 1 → uPre W o A s0 n c sl ix e' F' := by
    intro e' F' h1 h2 h3
    refine ⟨h1, hs, hix, hc4, hcA, hc5, by omega, ?_⟩
    split at hFl <;> split <;> omega
  have pre4 : ∀ (e' : eT) (F' : List cFm), eOk W o e' → e.2.1 ≤ e'.2.1 → F'.length ≤ F.length + 1 → uPre W o A s0 n 4 (eMod k) 0 e' F' := by
    intro e' F' h1 h2 h3
    refine ⟨h1, eMod_lt k, by omega, fun _ => Nat.zero_le _, fun h => absurd rfl h, by decide, ?_, ?_⟩
    · rw [if_neg (by decide)]; omega
    · rw [if_neg (by decide)]; omega
  unfold eDo
  by_cases c0 : f = (0 : Int32)
  · rw [if_pos c0]
    have hr : zcall zMs skX (d + 7) 41 [.inr (.inr 1)] s = some (none, uGive s (x + k)) := by
      rw [aX_U_run]
      unfold bX_U_run_0
      rw [h11, if_pos c0, h5, h12, sU_give, zcV_some]
    exact cR_mono 9 9 (cR_step (tS_run h6 hr) (cR_done 0 (x + k) 3 3 (uGive_Q _ hQ) rfl (fun _ => rfl) (fun _ => uGive_F _ hF) (by omega) (by omega))) (by omega) (by omega)
  rw [if_neg c0]
  by_cases c1 : f = ((0 : Int32) + 1)
  · rw [if_pos c1]
    have hr : zcall zMs skX (d + 7) 41 [.inr (.inr 1)] s = some (none, uGive s (x * k)) := by
      rw [aX_U_run]
      unfold bX_U_run_0
      rw [h11, if_neg c0, if_pos c1, h5, h12, sU_give, zcV_some]
    exact cR_mono 9 9 (cR_step (tS_run h6 hr) (cR_done 0 (x * k) 3 3 (uGive_Q _ hQ) rfl (fun _ => rfl) (fun _ => uGive_F _ hF) (by omega) (by omega))) (by omega) (by omega)
  rw [if_neg c1]
  by_cases c2 : f = (((0 : Int32) + 1) + 1)
  · rw [if_pos c2]
    have hr : zcall zMs skX (d + 7) 41 [.inr (.inr 1)] s = some (none, uCome s (nI c) (nI sl) (nI ix) (x + k)) := by
      rw [aX_U_run]
      unfold bX_U_run_0
      rw [h11, if_neg c0, if_neg c1, if_pos c2, h8, h9, h10, h5, h12, sU_come, zcV_some]
    exact cR_mono 9 9 (cR_step (tS_run h6 hr) (hE c sl ix (x + k) e F _ (pre1 e F hok (Nat.le_refl _) (by omega)) (uCome_Q _ _ _ _ hQ) (uCome_F _ _ _ _ hF) (uCm_mk _ rfl rfl rfl)).1) (by omega) (by omega)
  rw [if_neg c2]
  by_cases c3 : f = ((((0 : Int32) + 1) + 1) + 1)
  · rw [if_pos c3]
    have hr : zcall zMs skX (d + 7) 41 [.inr (.inr 1)] s = some (none, uCome (uLeave s F.length (0, nI c, nI sl, nI ix)) (nI c) (nI sl) (nI ix) x) := by
      rw [aX_U_run]
      unfold bX_U_run_0
      rw [h11, if_neg c0, if_neg c1, if_neg c2, if_pos c3, h8, h9, h10, sU_leave _ F.length _ _ _ _ s hF.1 hD, zcV_some, uLeave_1 _ _ _ 8 (by decide), uLeave_1 _ _ _ 9 (by decide), uLeave_1 _ _ _ 10 (by decide), uLeave_1 _ _ _ 5 (by decide), h8, h9, h10, h5, sU_come, zcV_some]
    obtain ⟨p1, p2, p3, -⟩ := hP c sl ix x e hok
    have hq := (hE c sl ix x e ((0, nI c, nI sl, nI ix) :: F) _ (pre1 e _ hok (Nat.le_refl _) (by simp)) (uCome_Q (nI c) (nI sl) (nI ix) x (uLeave_Q F.length (0, nI c, nI sl, nI ix) hQ)) (uCome_F _ _ _ _ (uLeave_F _ hD hF)) (uCm_mk _ rfl rfl rfl)).1
    refine cR_step (tS_run h6 hr) (cR_bnd (c0 := 6) (c2 := 6) 8 8 hq p1 (show ¬ (0 : Int32) = 2 by decide) ?_ (by omega) (by omega) (by omega) (by omega))
    intro _ s' g1 g2 g3 g4
    refine cR_step (tS_give g3 (c14_ne g2) (sU_giveT g2 rfl)) (hE c sl ix _ _ F _ (pre1 _ F p2 p3 (by omega)) (uCome_Q _ _ _ _ (u14_Q 14 _ (by decide) (by decide) (by decide) g1)) (uCome_F _ _ _ _ (uPop_F g2)) ?_).1
    rw [g4]
    exact uCm_mk _ rfl rfl rfl
  rw [if_neg c3]
  by_cases c4 : f = (((((0 : Int32) + 1) + 1) + 1) + 1)
  · rw [if_pos c4]
    have hr : zcall zMs skX (d + 7) 41 [.inr (.inr 1)] s = some (none, uCome s 4 (nI (eMod k)) 0 x) := by
      rw [aX_U_run]
      unfold bX_U_run_0
      rw [h11, if_neg c0, if_neg c1, if_neg c2, if_neg c3, if_pos c4, h12, sX_floorMod, zcI_some, h5, sU_come, zcV_some]
    exact cR_mono 9 9 (cR_step (tS_run h6 hr) (hE 4 (eMod k) 0 x e F _ (pre4 e F hok (Nat.le_refl _) (by omega)) (uCome_Q _ _ _ _ hQ) (uCome_F _ _ _ _ hF) (uCm_mk _ (by decide) rfl (by decide))).1) (by omega) (by omega)
  rw [if_neg c4]
  by_cases c5 : f = ((((((0 : Int32) + 1) + 1) + 1) + 1) + 1)
  · rw [if_pos c5]
    have hr : zcall zMs skX (d + 7) 41 [.inr (.inr 1)] s = some (none, uCome (uLeave s F.length (1, x, 0, 0)) 4 (nI (eMod k)) 0 0) := by
      rw [aX_U_run]
      unfold bX_U_run_0
      rw [h11, if_neg c0, if_neg c1, if_neg c2, if_neg c3, if_neg c4, if_pos c5, h5, sU_leave _ F.length _ _ _ _ s hF.1 hD, zcV_some, uLeave_1 _ _ _ 12 (by decide), h12, sX_floorMod, zcI_some, sU_come, zcV_some]
    obtain ⟨p1, p2, p3, -⟩ := hP 4 (eMod k) 0 0 e hok
    have hq := (hE 4 (eMod k) 0 0 e ((1, x, 0, 0) :: F) _ (pre4 e _ hok (Nat.le_refl _) (by simp)) (uCome_Q 4 (nI (eMod k)) 0 0 (uLeave_Q F.length (1, x, 0, 0) hQ)) (uCome_F _ _ _ _ (uLeave_F _ hD hF)) (uCm_mk _ (by decide) rfl (by decide))).1
    refine cR_step (tS_run h6 hr) (cR_bnd (c0 := 4) (c2 := 4) 8 8 hq p1 (show ¬ (1 : Int32) = 2 by decide) ?_ (by omega) (by omega) (by omega) (by omega))
    intro _ s' g1 g2 g3 g4
    refine cR_step (tS_give g3 (c14_ne g2) (sU_giveS g2 rfl)) (cR_done 0 _ 3 3 (uGive_Q _ (u14_Q 14 _ (by decide) (by decide) (by decide) g1)) rfl (fun _ => ?_) (fun _ => uGive_F _ (uPop_F g2)) (by omega) (by omega))
    show x + zg s' 1 5 = _
    rw [g4]
  rw [if_neg c5]
  by_cases c6 : f = (((((((0 : Int32) + 1) + 1) + 1) + 1) + 1) + 1)
  · rw [if_pos c6]
    have hfk := sX_isFirm (W := eSlf W o e.1) (d + 4) o s hok.1 hQ.1 ho
    have hk2 : aK (eSlf W o e.1) o = aK W o := rfl
    rw [hk2] at hfk
    have h16 : o < 16 := aWf_lt hok.1 ho
    by_cases hfm : aK W o = 1 ∨ aK W o = 3
    · rw [if_pos hfm]
      have hr : zcall zMs skX (d + 7) 41 [.inr (.inr 1)] s = some (none, zs s 1 6 3) := by
        rw [aX_U_run]
        unfold bX_U_run_0
        rw [h11, if_neg c0, if_neg c1, if_neg c2, if_neg c3, if_neg c4, if_neg c5, if_pos c6, h12, sX_floorMod, zcI_some, aX_U_setOwn]
        unfold bX_U_setOwn_0
        rw [hQ.2.2.2.2.1, hfk, zBp_t hfm, zcI_some, if_neg o1, zcV_some]
      exact cR_mono 9 9 (cR_step (tS_run h6 hr) (cR_done 1 0 3 3 (u14_Q 6 _ (by decide) (by decide) (by decide) hQ) rfl (fun h => absurd h (by decide)) (fun _ => u1_F 6 _ (by decide) hF) (by omega) (by omega))) (by omega) (by omega)
    · rw [if_neg hfm]
      have hr : zcall zMs skX (d + 7) 41 [.inr (.inr 1)] s = some (none, uGive (xput s o (eMod k) 1 0 x) x) := by
        rw [aX_U_run]
        unfold bX_U_run_0
        rw [h11, if_neg c0, if_neg c1, if_neg c2, if_neg c3, if_neg c4, if_neg c5, if_pos c6, h12, sX_floorMod, zcI_some, aX_U_setOwn]
        unfold bX_U_setOwn_0
        rw [hQ.2.2.2.2.1, hfk, zBp_f hfm, zcI_some, if_pos (show (0 : Int32) = 0 from rfl), hQ.2.2.2.2.1, h5, sX_putValue _ o (eMod k) x s h16 (eMod_lt k), zcV_some]
        have e5 : zg (xput s o (eMod k) 1 0 x) 1 5 = x := h5
        rw [e5, sU_give, zcV_some, zcV_some]
      obtain ⟨q1, q2, q3, q4, q5, q6, q7⟩ := hQ
      have hput := aX_put (f := 0) (v := x) (t := 1) (o := o) q1 (eMod_lt k)
      rw [← eSlf_up, nIe1] at hput
      have hQ' : cQ W o k0 s0 (uGive (xput s o (eMod k) 1 0 x) x) (eUp e.1 (eMod k) (1, 0, x), e.2) := by
        refine ⟨aX_fr (fun p h2 h11 i => uGive_o _ _ p i (by omega)) hput, q2, q3, q4, q5, ?_, q7⟩
        intro p a1 a2 a3 a4 a5 a6 i
        rw [uGive_o _ _ p i a1, ← q6 p a1 a2 a3 a4 a5 a6 i]
        unfold xput
        rw [zgz_ne a4, zgz_ne a3, zgz_ne a2]
      have hF' : cF (uGive (xput s o (eMod k) 1 0 x) x) F := by
        refine uGive_F _ (cF_fr (s := s) (fun i => ?_) ?_ hF)
        · unfold xput
          rw [zgz_ne (by decide), zgz_ne (by decide), zgz_ne (by decide)]
        · unfold xput
          rw [zgz_ne (by decide), zgz_ne (by decide), zgz_ne (by decide)]
      exact cR_mono 9 9 (cR_step (tS_run h6 hr) (cR_done 0 x 3 3 hQ' rfl (fun _ => rfl) (fun _ => hF') (by omega) (by omega))) (by omega) (by omega)
  rw [if_neg c6]
  by_cases c7 : f = ((((((((0 : Int32) + 1) + 1) + 1) + 1) + 1) + 1) + 1)
  · rw [if_pos c7]
    by_cases hlt : x < k
    · rw [if_pos hlt]
      have hr : zcall zMs skX (d + 7) 41 [.inr (.inr 1)] s = some (none, uCome s (nI c) (nI sl) (nI ix) x) := by
        rw [aX_U_run]
        unfold bX_U_run_0
        rw [h11, if_neg c0, if_neg c1, if_neg c2, if_neg c3, if_neg c4, if_neg c5, if_neg c6, if_pos c7, h8, h9, h10, h5, sU_come, zcV_some]
        have e5 : zg (uCome s (nI c) (nI sl) (nI ix) x) 1 5 = x := rfl
        have e12 : zg (uCome s (nI c) (nI sl) (nI ix) x) 1 12 = k := h12
        rw [e5, e12, if_pos hlt]
      exact cR_mono 9 9 (cR_step (tS_run h6 hr) (hE c sl ix x e F _ (pre1 e F hok (Nat.le_refl _) (by omega)) (uCome_Q _ _ _ _ hQ) (uCome_F _ _ _ _ hF) (uCm_mk _ rfl rfl rfl)).1) (by omega) (by omega)
    · rw [if_neg hlt]
      have hr : zcall zMs skX (d + 7) 41 [.inr (.inr 1)] s = some (none, uGive (uCome s (nI c) (nI sl) (nI ix) x) x) := by
        rw [aX_U_run]
        unfold bX_U_run_0
        rw [h11, if_neg c0, if_neg c1, if_neg c2, if_neg c3, if_neg c4, if_neg c5, if_neg c6, if_pos c7, h8, h9, h10, h5, sU_come, zcV_some]
        have e5 : zg (uCome s (nI c) (nI sl) (nI ix) x) 1 5 = x := rfl
        have e12 : zg (uCome s (nI c) (nI sl) (nI ix) x) 1 12 = k := h12
        rw [e5, e12, if_neg hlt, sU_give, zcV_some]
      exact cR_mono 9 9 (cR_step (tS_run h6 hr) (cR_done 0 x 3 3 (uGive_Q _ (uCome_Q _ _ _ _ hQ)) rfl (fun _ => rfl) (fun _ => uGive_F _ (uCome_F _ _ _ _ hF)) (by omega) (by omega))) (by omega) (by omega)
  rw [if_neg c7]
  by_cases c8 : f = (((((((((0 : Int32) + 1) + 1) + 1) + 1) + 1) + 1) + 1) + 1)
  · rw [if_pos c8]
    have hr : zcall zMs skX (d + 7) 41 [.inr (.inr 1)] s = some (none, uGive s (nI e.2.1 + x)) := by
      rw [aX_U_run]
      unfold bX_U_run_0
      rw [h11, if_neg c0, if_neg c1, if_neg c2, if_neg c3, if_neg c4, if_neg c5, if_neg c6, if_neg c7, if_pos c8, h5, hQ.2.1, sU_give, zcV_some]
    exact cR_mono 9 9 (cR_step (tS_run h6 hr) (cR_done 0 _ 3 3 (uGive_Q _ hQ) rfl (fun _ => rfl) (fun _ => uGive_F _ hF) (by omega) (by omega))) (by omega) (by omega)
  rw [if_neg c8]
  have hr : zcall zMs skX (d + 7) 41 [.inr (.inr 1)] s = some (none, uCome (uLeave s F.length (2, k, 0, 0)) (nI c) (nI sl) (nI ix) x) := by
    rw [aX_U_run]
    unfold bX_U_run_0
    rw [h11, if_neg c0, if_neg c1, if_neg c2, if_neg c3, if_neg c4, if_neg c5, if_neg c6, if_neg c7, if_neg c8, h12, sU_leave _ F.length _ _ _ _ s hF.1 hD, zcV_some, uLeave_1 _ _ _ 8 (by decide), uLeave_1 _ _ _ 9 (by decide), uLeave_1 _ _ _ 10 (by decide), uLeave_1 _ _ _ 5 (by decide), h8, h9, h10, h5, sU_come, zcV_some]
  obtain ⟨p1, p2, p3, -⟩ := hP c sl ix x e hok
  obtain ⟨k1, s', g1, g2, g3, g4, g5, g6⟩ := (hE c sl ix x e ((2, k, 0, 0) :: F) _ (pre1 e _ hok (Nat.le_refl _) (by simp)) (uCome_Q (nI c) (nI sl) (nI ix) x (uLeave_Q F.length (2, k, 0, 0) hQ)) (uCome_F _ _ _ _ (uLeave_F _ hD hF)) (uCm_mk _ rfl rfl rfl)).1
  by_cases hr1 : (E c sl ix x e).1 = 1
  · rw [if_pos hr1]
    rw [if_neg (by omega)] at g2
    have hF' := g6 (by omega)
    have h3 : zg s' 1 6 = 3 := by rw [g4, hr1]; rfl
    refine ⟨1 + (k1 + 1), _, cSt_trans (show cSt d 1 s _ from ⟨_, tS_run h6 hr, rfl⟩) (cSt_trans g1 ⟨_, tS_fail h3 (c14_ne hF') (sU_failG hF' rfl), rfl⟩), ?_, uGive_Q _ (u14_Q 14 _ (by decide) (by decide) (by decide) g3), rfl, fun _ => rfl, fun _ => uGive_F _ (uPop_F hF')⟩
    show 1 + (k1 + 1) + 10 * e.2.1 + 3 ≤ 10 * (E c sl ix x e).2.2.2.1 + (if (0 : Nat) = 2 then 9 else 9)
    rw [if_neg (by decide)]
    omega
  · rw [if_neg hr1]
    by_cases hr0 : (E c sl ix x e).1 = 0
    · rw [if_neg (by omega)] at g2
      have hF' := g6 (by omega)
      have h2 : zg s' 1 6 = 2 := by rw [g4, hr0]; rfl
      refine ⟨1 + (k1 + 1), _, cSt_trans (show cSt d 1 s _ from ⟨_, tS_run h6 hr, rfl⟩) (cSt_trans g1 ⟨_, tS_give h2 (c14_ne hF') (sU_giveG hF' rfl), rfl⟩), ?_, u14_Q 14 _ (by decide) (by decide) (by decide) g3, ?_, fun _ => ?_, fun _ => uPop_F hF'⟩
      · rw [if_neg (by omega)]
        omega
      · exact (zgz_nj (by decide)).trans g4
      · exact (zgz_nj (by decide)).trans (g5 hr0)
    · have hr2 : (E c sl ix x e).1 = 2 := by omega
      rw [if_pos hr2] at g2
      refine ⟨1 + k1, s', cSt_trans (show cSt d 1 s _ from ⟨_, tS_run h6 hr, rfl⟩) g1, ?_, g3, g4, fun h => absurd h hr0, fun h => absurd hr2 h⟩
      rw [if_pos hr2]
      omega
