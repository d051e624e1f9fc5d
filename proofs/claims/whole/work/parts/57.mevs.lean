/-! THE CORE and every come, by the reference -/
theorem mBad47 (C : Nat → List zV → zS → zR) (N : Nat) (v y : Int32) (t : zS) (h : ¬ zg t 0 28 = 0) : zexec skM C zT_M_core 1 (N + 1) 47 [some (.inr (.inr 0)), none, some (.inl v), some (.inl y)] [] t = some (some (.inl v), t) := by
  rw [hM_M_core_47]
  unfold bM_M_core_47
  by_cases hy : y < 0
  · rw [if_pos hy]
  · rw [if_neg hy, if_pos h]
theorem mBad10 (C : Nat → List zV → zS → zR) (N : Nat) (x i : Int32) (t : zS) (h : ¬ zg t 0 28 = 0) : zexec skM C zT_M_core 1 (N + 2) 10 [some (.inr (.inr 0)), some (.inl x), some (.inl i), none] [] t = some (some (.inl 0), t) := by
  rw [hM_M_core_10]
  unfold bM_M_core_10
  by_cases hy : zg t 23 1 ≤ i
  · rw [if_pos hy, if_pos h]
    exact mBad47 C N 0 _ t h
  · rw [if_neg hy, if_pos h, if_pos h]
    exact mBad47 C N 0 _ t h
theorem mQ_23 {W : aW} {o : Nat} {t0 t : zS} {e : eT} (h : mQ W o t0 t e) (i : Nat) : zg t 23 i = zg t0 23 i := h.2.2.2.2.2.1 23 (by decide) (by decide) (by decide) (by decide) (by decide) (by decide) i
theorem mAft {W : aW} {o n D : Nat} {A : Nat → List Nat} {t0 : zS} {E : eE} (hA : mA W t0 A) (hG : mGoes W o A t0 n D E) (hP : ∀ c sl ix x e, eOk W o e → ePo W o A e (E c sl ix x e)) (v : Int32) : ∀ (m : Nat) (e : eT) (t : zS) (N : Nat), m ≤ (A 2).length → m + 1 ≤ N → eOk W o e → 201 ≤ n + e.2.1 → mQ W o t0 t e → zg t 0 28 = 0 → mR W o t0 (zexec skM (zcall zMs skM D) zT_M_core 1 N 47 [some (.inr (.inr 0)), none, some (.inl v), some (.inl (nI m - 1))] [] t) (eAft E v m e) := by
  have hA2 := (hA.1 2 (by decide)).2.1
  intro m
  induction m with
  | zero =>
    intro e t N _ hN hok hfu hQ h28
    obtain ⟨N, rfl⟩ : ∃ N', N = N' + 1 := ⟨N - 1, by omega⟩
    rw [hM_M_core_47]
    unfold bM_M_core_47
    rw [if_pos (show nI 0 - 1 < (0 : Int32) by decide)]
    exact ⟨v, t, rfl, hQ, h28, fun _ => rfl⟩
  | succ m ih =>
    intro e t N hm hN hok hfu hQ h28
    obtain ⟨N, rfl⟩ : ∃ N', N = N' + 2 := ⟨N - 2, by omega⟩
    rw [nI_pred, hM_M_core_47]
    unfold bM_M_core_47
    rw [if_neg (nI_pos (show m < 2 ^ 31 by omega)), if_neg (fun h => h h28), nI_m1]
    obtain ⟨p1, p2, p3, -⟩ := hP 2 0 m v e hok
    refine mR_bnd (hG 2 m v e t (by decide) (by omega) hA hok (by rw [if_neg (by decide)]; omega) hQ h28) ?_ ?_
    · intro _ t' g1 g2
      exact ih _ t' (N + 1) (by omega) (by omega) p2 (by omega) g1 g2
    · intro hne w t' g1 g2
      exact ⟨v, mBad47 _ N v _ t' (by rw [g2]; exact n28_ne hne p1)⟩
theorem mMain {W : aW} {o n D : Nat} {A : Nat → List Nat} {t0 : zS} {E : eE} (hA : mA W t0 A) (hG : mGoes W o A t0 n D E) (hP : ∀ c sl ix x e, eOk W o e → ePo W o A e (E c sl ix x e)) (hA0 : 0 < (A 0).length) (x : Int32) (e : eT) (t : zS) (N : Nat) (hN : 50 ≤ N) (hok : eOk W o e) (hfu : 201 ≤ n + e.2.1) (hQ : mQ W o t0 t e) (h28 : zg t 0 28 = 0) : mR W o t0 (zexec skM (zcall zMs skM D) zT_M_core 1 N 10 [some (.inr (.inr 0)), some (.inl x), some (.inl (nI (A 1).length)), none] [] t) (eMain E A x e) := by
  have hA1 := hA.1 1 (by decide)
  have hA2 := hA.1 2 (by decide)
  obtain ⟨N, rfl⟩ : ∃ N', N = N' + 2 := ⟨N - 2, by omega⟩
  rw [hM_M_core_10]
  unfold bM_M_core_10
  rw [mQ_23 hQ 1, hA1.1, if_pos (nI_le (Nat.le_refl _) (by omega)), if_neg (fun h => h h28)]
  obtain ⟨p1, p2, p3, -⟩ := hP 0 0 0 x e hok
  refine mR_bnd (hG 0 0 x e t (by decide) hA0 hA hok (by rw [if_neg (by decide)]; omega) hQ h28) ?_ ?_
  · intro _ t' g1 g2
    rw [mQ_23 g1 2, hA2.1]
    exact mAft hA hG hP _ (A 2).length _ t' (N + 1) (Nat.le_refl _) (by omega) p2 (by omega) g1 g2
  · intro hne w t' g1 g2
    exact ⟨w, mBad47 _ N w _ t' (by rw [g2]; exact n28_ne hne p1)⟩
theorem mBef {W : aW} {o n D : Nat} {A : Nat → List Nat} {t0 : zS} {E : eE} (hA : mA W t0 A) (hG : mGoes W o A t0 n D E) (hP : ∀ c sl ix x e, eOk W o e → ePo W o A e (E c sl ix x e)) (hA0 : 0 < (A 0).length) (x : Int32) : ∀ (m i : Nat) (e : eT) (t : zS) (N : Nat), i + m = (A 1).length → m + 50 ≤ N → eOk W o e → 201 ≤ n + e.2.1 → mQ W o t0 t e → zg t 0 28 = 0 → mR W o t0 (zexec skM (zcall zMs skM D) zT_M_core 1 N 10 [some (.inr (.inr 0)), some (.inl x), some (.inl (nI i)), none] [] t) (eBef E A x m i e) := by
  have hA1 := hA.1 1 (by decide)
  intro m
  induction m with
  | zero =>
    intro i e t N hi hN hok hfu hQ h28
    have hi' : i = (A 1).length := by omega
    rw [hi']
    exact mMain hA hG hP hA0 x e t N (by omega) hok hfu hQ h28
  | succ m ih =>
    intro i e t N hi hN hok hfu hQ h28
    obtain ⟨N, rfl⟩ : ∃ N', N = N' + 3 := ⟨N - 3, by omega⟩
    rw [hM_M_core_10]
    unfold bM_M_core_10
    rw [mQ_23 hQ 1, hA1.1, if_neg (nI_ge (show i < (A 1).length by omega) (by omega)), if_neg (fun h => h h28), nI_1]
    obtain ⟨p1, p2, p3, -⟩ := hP 1 0 i x e hok
    refine mR_bnd (hG 1 i x e t (by decide) (by omega) hA hok (by rw [if_neg (by decide)]; omega) hQ h28) ?_ ?_
    · intro _ t' g1 g2
      exact ih (i + 1) _ t' (N + 2) (by omega) (by omega) p2 (by omega) g1 g2
    · intro hne w t' g1 g2
      exact ⟨0, mBad10 _ N x _ t' (by rw [g2]; exact n28_ne hne p1)⟩
theorem mNext_s {W : aW} {o n D : Nat} {A : Nat → List Nat} {t0 : zS} (ho : o < aN W) (hE : mNext W o A t0 n (D + 2) (ev W o A n) ∧ mSend W o A t0 n (D + 2) (ev W o A n)) (hE3 : mGoes W o A t0 n (D + 3) (ev W o A n)) : mNext W o A t0 (n + 1) (D + 5) (ev W o A (n + 1)) := by
  intro c sl ix x y e t hpre hy hQ h28
  obtain ⟨hok, hs, hix, hc4, hcA, hc, hfu⟩ := id hpre
  have hG := mGoes_s (A := A) (t0 := t0) ho hE
  have hP := ev_ok W o A n
  rw [aM_M_next2]
  unfold bM_M_next2_0
  rcases hc with rfl | rfl | rfl | rfl
  · rw [show nI (mo 4) = (0 : Int32) by decide, if_pos (show (0 : Int32) = 0 from rfl), hy (by decide), nI_m1p, hQ.2.2.2.2.1]
    have hix' := hc4 rfl
    have hfd := sM_found (W := eSlf W o e.1) (D + 2) o sl ix t hok.1 (aM_ofz hok.1 hQ.1) ho hs hix'
    have hef : aFst (fun p => aHas (eSlf W o e.1) p sl) ((aO (eSlf W o e.1) o).drop ix) ix = eFst W o e.1 sl ix := rfl
    rw [hef] at hfd
    rw [hfd, zcI_some]
    exact mR_id (mGives ho hE.1 hE.2 hP sl ix x e t hpre hQ h28)
  · obtain ⟨hA, rfl⟩ := hcA (by decide)
    have hA3 := hA.1 3 (by decide)
    have hA0 := hA.1 0 (by decide)
    rw [show nI (mo 3) = (1 : Int32) by decide, if_neg (show ¬ (1 : Int32) = 0 by decide), if_pos (show (1 : Int32) = (0 : Int32) + 1 by decide), hy (by decide), nI_m1p, mQ_23 hQ 3, hA3.1]
    by_cases hlt : ix < (A 3).length
    · rw [if_neg (nI_ge hlt (by omega))]
      have hg := hG 3 ix x e t (by decide) hlt hA hok hfu hQ h28
      rw [show nI (mo (eC 3)) = (1 : Int32) by decide, show nI 3 = (3 : Int32) by decide] at hg
      exact mR_id hg
    · rw [if_pos (nI_le (show (A 3).length ≤ ix by omega) (by omega)), aM_M_core]
      unfold bM_M_core_0
      rw [mQ_23 hQ 0, hA0.1]
      show mR W o t0 _ (if (3 : Nat) = 4 then eSlot (ev W o A n) W o 0 ix x e else if ix < (A 3).length then eWay (ev W o A n) W o 3 0 ix ((A 3).getD ix 0) x e else if (3 : Nat) = 3 ∧ 0 < (A 0).length then eBef (ev W o A n) A x (A 1).length 0 e else (1, 0, e))
      rw [if_neg (show ¬ (3 : Nat) = 4 by decide), if_neg hlt]
      rw [if_pos rfl] at hfu
      by_cases h0 : 0 < (A 0).length
      · rw [if_pos (show (3 : Nat) = 3 ∧ 0 < (A 0).length from ⟨rfl, h0⟩), if_pos (show ¬ nI (A 0).length = 0 from nI_ne0 h0 (by omega))]
        have hb := mBef (D := D + 3) hA hE3 hP h0 x (A 1).length 0 e t 19999 (by omega) (by have := (hA.1 1 (by decide)).2.1; omega) hok (by omega) hQ h28
        rw [nI_0] at hb
        exact mR_id hb
      · have hz : (A 0).length = 0 := by omega
        rw [if_neg (show ¬ ((3 : Nat) = 3 ∧ 0 < (A 0).length) from fun c => h0 c.2), hz, if_neg (show ¬ ¬ nI 0 = 0 from fun h => h nI_0)]
        exact mR_id (mR_id (mR_fails _ hQ))
  · obtain ⟨hA, rfl⟩ := hcA (by decide)
    have hA0 := hA.1 0 (by decide)
    rw [show nI (mo 0) = (2 : Int32) by decide, if_neg (show ¬ (2 : Int32) = 0 by decide), if_neg (show ¬ (2 : Int32) = (0 : Int32) + 1 by decide), if_pos (show (2 : Int32) = (0 : Int32) + 1 + 1 by decide), hy (by decide), nI_m1p, mQ_23 hQ 0, hA0.1]
    by_cases hlt : ix < (A 0).length
    · rw [if_neg (nI_ge hlt (by omega))]
      have hg := hG 0 ix x e t (by decide) hlt hA hok hfu hQ h28
      rw [show nI (mo (eC 0)) = (2 : Int32) by decide, show nI 0 = (0 : Int32) by decide] at hg
      exact mR_id hg
    · rw [if_pos (nI_le (show (A 0).length ≤ ix by omega) (by omega))]
      show mR W o t0 _ (if (0 : Nat) = 4 then eSlot (ev W o A n) W o 0 ix x e else if ix < (A 0).length then eWay (ev W o A n) W o 0 0 ix ((A 0).getD ix 0) x e else if (0 : Nat) = 3 ∧ 0 < (A 0).length then eBef (ev W o A n) A x (A 1).length 0 e else (1, 0, e))
      rw [if_neg (show ¬ (0 : Nat) = 4 by decide), if_neg hlt, if_neg (fun c => absurd c.1 (by decide))]
      exact mR_id (mR_fails _ hQ)
  · obtain ⟨hA, rfl⟩ := hcA (by decide)
    have hA5 := hA.2
    rw [show nI (mo 5) = (3 : Int32) by decide, if_neg (show ¬ (3 : Int32) = 0 by decide), if_neg (show ¬ (3 : Int32) = (0 : Int32) + 1 by decide), if_neg (show ¬ (3 : Int32) = (0 : Int32) + 1 + 1 by decide)]
    show mR W o t0 _ (if (5 : Nat) = 4 then eSlot (ev W o A n) W o 0 ix x e else if ix < (A 5).length then eWay (ev W o A n) W o 5 0 ix ((A 5).getD ix 0) x e else if (5 : Nat) = 3 ∧ 0 < (A 0).length then eBef (ev W o A n) A x (A 1).length 0 e else (1, 0, e))
    rw [if_neg (show ¬ (5 : Nat) = 4 by decide), if_neg (by rw [hA5]; exact Nat.not_lt_zero ix), if_neg (fun c => absurd c.1 (by decide))]
    exact mR_id (mR_fails _ hQ)
theorem mAll {W : aW} {o : Nat} {A : Nat → List Nat} {t0 : zS} (ho : o < aN W) : ∀ n, mEv W o A t0 n (ev W o A n) := by
  intro n
  induction n with
  | zero =>
    intro D hD
    refine ⟨?_, ?_, ?_⟩
    · intro c sl ix x y e t hpre
      obtain ⟨hok, -, -, -, -, -, hfu⟩ := hpre
      have := hok.2.1
      omega
    · intro sl x e t hpre
      obtain ⟨hok, -, -, -, -, -, hfu⟩ := hpre
      have := hok.2.1
      omega
    · intro c ix x e t _ _ _ hok hfu
      have := hok.2.1
      omega
  | succ n ih =>
    intro D hD
    obtain ⟨D, rfl⟩ : ∃ D', D = D' + 5 := ⟨D - 5, by omega⟩
    have h2 := ih (D + 2) (by omega)
    have h3 := ih (D + 3) (by omega)
    exact ⟨mNext_s ho ⟨h2.1, h2.2.1⟩ h3.2.2, mSend_s ho ⟨h2.1, h2.2.1⟩, mGoes_s (D := D + 1) ho ⟨h3.1, h3.2.1⟩⟩
