/-! restore -/
theorem sM_re_a (C : Nat → List zV → zS → zR) (t : zS) : ∀ (f m j : Nat), j + f = 16 → zexec skM C zT_M_restore 1 (m + f) 13 [some (.inr (.inr 0)), some (.inl (nI j))] [] (zM t (fun p i => ((p = 6 ∨ p = 7) ∧ i < 16) ∨ ((p = 8 ∨ p = 9) ∧ i < 256) ∨ ((p = 1 ∨ p = 2 ∨ p = 4) ∧ i < j)) (fun p i => zg t 24 (rOff p + i))) = zexec skM C zT_M_restore 1 m 13 [some (.inr (.inr 0)), some (.inl (nI 16))] [] (zM t (fun p i => ((p = 6 ∨ p = 7) ∧ i < 16) ∨ ((p = 8 ∨ p = 9) ∧ i < 256) ∨ ((p = 1 ∨ p = 2 ∨ p = 4) ∧ i < 16)) (fun p i => zg t 24 (rOff p + i))) := by
  intro f
  induction f with
  | zero =>
    intro m j hj
    obtain rfl : j = 16 := by omega
    rfl
  | succ f ih =>
    intro m j hj
    rw [show m + (f + 1) = (m + f) + 1 by omega, hM_M_restore_13]
    unfold bM_M_restore_13
    rw [if_neg (show ¬ (16 : Int32) ≤ nI j from nI_ge (show j < 16 by omega) (by decide))]
    simp only [nA544, nA560, nA576, zin_nI (show j < 16 by omega) (show 16 < 2 ^ 31 by decide), nI_clamp (show j < 2 ^ 31 by omega), zin_nI (show 544 + j < 1108 by omega) (show 1108 < 2 ^ 31 by decide), nI_clamp (show 544 + j < 2 ^ 31 by omega), zin_nI (show 560 + j < 1108 by omega) (show 1108 < 2 ^ 31 by decide), nI_clamp (show 560 + j < 2 ^ 31 by omega), zin_nI (show 576 + j < 1108 by omega) (show 1108 < 2 ^ 31 by decide), nI_clamp (show 576 + j < 2 ^ 31 by omega), nI_1]
    rw [← ih m (j + 1) (by omega)]
    congr 1
    rw [zM_out (t := t) (P := fun p i => ((p = 6 ∨ p = 7) ∧ i < 16) ∨ ((p = 8 ∨ p = 9) ∧ i < 256) ∨ ((p = 1 ∨ p = 2 ∨ p = 4) ∧ i < j)) (f := (fun p i => zg t 24 (rOff p + i))) (p := 24) (i := 544 + j) (by first | omega | (dsimp only; omega))]
    rw [zM_out (t := t) (P := fun p i => ((p = 6 ∨ p = 7) ∧ i < 16) ∨ ((p = 8 ∨ p = 9) ∧ i < 256) ∨ ((p = 1 ∨ p = 2 ∨ p = 4) ∧ i < j)) (f := (fun p i => zg t 24 (rOff p + i))) (p := 24) (i := 560 + j) (by first | omega | (dsimp only; omega))]
    rw [zM_out (t := t) (P := fun p i => ((p = 6 ∨ p = 7) ∧ i < 16) ∨ ((p = 8 ∨ p = 9) ∧ i < 256) ∨ ((p = 1 ∨ p = 2 ∨ p = 4) ∧ i < j)) (f := (fun p i => zg t 24 (rOff p + i))) (p := 24) (i := 576 + j) (by first | omega | (dsimp only; omega))]
    rw [zM_step (f := (fun p i => zg t 24 (rOff p + i))) (p := 1) (i := j) (v := zg t 24 (544 + j)) (rfl)]
    rw [zM_step (f := (fun p i => zg t 24 (rOff p + i))) (p := 2) (i := j) (v := zg t 24 (560 + j)) (rfl)]
    rw [zM_step (f := (fun p i => zg t 24 (rOff p + i))) (p := 4) (i := j) (v := zg t 24 (576 + j)) (rfl)]
    exact zM_congr (fun p i => by first | omega | (dsimp only; omega))

theorem sM_re_b (C : Nat → List zV → zS → zR) (t : zS) : ∀ (f m j : Nat), j + f = 48 → zexec skM C zT_M_restore 1 (m + f) 50 [some (.inr (.inr 0)), some (.inl (nI j))] [] (zM t (fun p i => ((p = 6 ∨ p = 7) ∧ i < 16) ∨ ((p = 8 ∨ p = 9) ∧ i < 256) ∨ ((p = 1 ∨ p = 2 ∨ p = 4) ∧ i < 16) ∨ (p = 3 ∧ i < j)) (fun p i => zg t 24 (rOff p + i))) = zexec skM C zT_M_restore 1 m 50 [some (.inr (.inr 0)), some (.inl (nI 48))] [] (zM t (fun p i => ((p = 6 ∨ p = 7) ∧ i < 16) ∨ ((p = 8 ∨ p = 9) ∧ i < 256) ∨ ((p = 1 ∨ p = 2 ∨ p = 4) ∧ i < 16) ∨ (p = 3 ∧ i < 48)) (fun p i => zg t 24 (rOff p + i))) := by
  intro f
  induction f with
  | zero =>
    intro m j hj
    obtain rfl : j = 48 := by omega
    rfl
  | succ f ih =>
    intro m j hj
    rw [show m + (f + 1) = (m + f) + 1 by omega, hM_M_restore_50]
    unfold bM_M_restore_50
    rw [if_neg (show ¬ (48 : Int32) ≤ nI j from nI_ge (show j < 48 by omega) (by decide))]
    simp only [nA592, zin_nI (show j < 48 by omega) (show 48 < 2 ^ 31 by decide), nI_clamp (show j < 2 ^ 31 by omega), zin_nI (show 592 + j < 1108 by omega) (show 1108 < 2 ^ 31 by decide), nI_clamp (show 592 + j < 2 ^ 31 by omega), nI_1]
    rw [← ih m (j + 1) (by omega)]
    congr 1
    rw [zM_out (t := t) (P := fun p i => ((p = 6 ∨ p = 7) ∧ i < 16) ∨ ((p = 8 ∨ p = 9) ∧ i < 256) ∨ ((p = 1 ∨ p = 2 ∨ p = 4) ∧ i < 16) ∨ (p = 3 ∧ i < j)) (f := (fun p i => zg t 24 (rOff p + i))) (p := 24) (i := 592 + j) (by first | omega | (dsimp only; omega))]
    rw [zM_step (f := (fun p i => zg t 24 (rOff p + i))) (p := 3) (i := j) (v := zg t 24 (592 + j)) (rfl)]
    exact zM_congr (fun p i => by first | omega | (dsimp only; omega))

theorem sM_re_c (C : Nat → List zV → zS → zR) (t : zS) : ∀ (f m j : Nat), j + f = 256 → zexec skM C zT_M_restore 1 (m + f) 67 [some (.inr (.inr 0)), some (.inl (nI j))] [] (zM t (fun p i => ((p = 6 ∨ p = 7) ∧ i < 16) ∨ ((p = 8 ∨ p = 9) ∧ i < 256) ∨ ((p = 1 ∨ p = 2 ∨ p = 4) ∧ i < 16) ∨ (p = 3 ∧ i < 48) ∨ (p = 5 ∧ i < j)) (fun p i => zg t 24 (rOff p + i))) = zexec skM C zT_M_restore 1 m 67 [some (.inr (.inr 0)), some (.inl (nI 256))] [] (zM t (fun p i => ((p = 6 ∨ p = 7) ∧ i < 16) ∨ ((p = 8 ∨ p = 9) ∧ i < 256) ∨ ((p = 1 ∨ p = 2 ∨ p = 4) ∧ i < 16) ∨ (p = 3 ∧ i < 48) ∨ (p = 5 ∧ i < 256)) (fun p i => zg t 24 (rOff p + i))) := by
  intro f
  induction f with
  | zero =>
    intro m j hj
    obtain rfl : j = 256 := by omega
    rfl
  | succ f ih =>
    intro m j hj
    rw [show m + (f + 1) = (m + f) + 1 by omega, hM_M_restore_67]
    unfold bM_M_restore_67
    rw [if_neg (show ¬ (256 : Int32) ≤ nI j from nI_ge (show j < 256 by omega) (by decide))]
    simp only [nA640, zin_nI (show j < 256 by omega) (show 256 < 2 ^ 31 by decide), nI_clamp (show j < 2 ^ 31 by omega), zin_nI (show 640 + j < 1108 by omega) (show 1108 < 2 ^ 31 by decide), nI_clamp (show 640 + j < 2 ^ 31 by omega), nI_1]
    rw [← ih m (j + 1) (by omega)]
    congr 1
    rw [zM_out (t := t) (P := fun p i => ((p = 6 ∨ p = 7) ∧ i < 16) ∨ ((p = 8 ∨ p = 9) ∧ i < 256) ∨ ((p = 1 ∨ p = 2 ∨ p = 4) ∧ i < 16) ∨ (p = 3 ∧ i < 48) ∨ (p = 5 ∧ i < j)) (f := (fun p i => zg t 24 (rOff p + i))) (p := 24) (i := 640 + j) (by first | omega | (dsimp only; omega))]
    rw [zM_step (f := (fun p i => zg t 24 (rOff p + i))) (p := 5) (i := j) (v := zg t 24 (640 + j)) (rfl)]
    exact zM_congr (fun p i => by first | omega | (dsimp only; omega))

theorem sM_re_d (C : Nat → List zV → zS → zR) (t : zS) : ∀ (f m j : Nat), j + f = 192 → zexec skM C zT_M_restore 1 (m + f) 84 [some (.inr (.inr 0)), some (.inl (nI j))] [] (zM t (fun p i => ((p = 6 ∨ p = 7) ∧ i < 16) ∨ ((p = 8 ∨ p = 9) ∧ i < 256) ∨ ((p = 1 ∨ p = 2 ∨ p = 4) ∧ i < 16) ∨ (p = 3 ∧ i < 48) ∨ (p = 5 ∧ i < 256) ∨ (p = 10 ∧ i < j)) (fun p i => zg t 24 (rOff p + i))) = zexec skM C zT_M_restore 1 m 84 [some (.inr (.inr 0)), some (.inl (nI 192))] [] (zM t (fun p i => ((p = 6 ∨ p = 7) ∧ i < 16) ∨ ((p = 8 ∨ p = 9) ∧ i < 256) ∨ ((p = 1 ∨ p = 2 ∨ p = 4) ∧ i < 16) ∨ (p = 3 ∧ i < 48) ∨ (p = 5 ∧ i < 256) ∨ (p = 10 ∧ i < 192)) (fun p i => zg t 24 (rOff p + i))) := by
  intro f
  induction f with
  | zero =>
    intro m j hj
    obtain rfl : j = 192 := by omega
    rfl
  | succ f ih =>
    intro m j hj
    rw [show m + (f + 1) = (m + f) + 1 by omega, hM_M_restore_84]
    unfold bM_M_restore_84
    rw [if_neg (show ¬ (192 : Int32) ≤ nI j from nI_ge (show j < 192 by omega) (by decide))]
    simp only [nA896, zin_nI (show j < 192 by omega) (show 192 < 2 ^ 31 by decide), nI_clamp (show j < 2 ^ 31 by omega), zin_nI (show 896 + j < 1108 by omega) (show 1108 < 2 ^ 31 by decide), nI_clamp (show 896 + j < 2 ^ 31 by omega), nI_1]
    rw [← ih m (j + 1) (by omega)]
    congr 1
    rw [zM_out (t := t) (P := fun p i => ((p = 6 ∨ p = 7) ∧ i < 16) ∨ ((p = 8 ∨ p = 9) ∧ i < 256) ∨ ((p = 1 ∨ p = 2 ∨ p = 4) ∧ i < 16) ∨ (p = 3 ∧ i < 48) ∨ (p = 5 ∧ i < 256) ∨ (p = 10 ∧ i < j)) (f := (fun p i => zg t 24 (rOff p + i))) (p := 24) (i := 896 + j) (by first | omega | (dsimp only; omega))]
    rw [zM_step (f := (fun p i => zg t 24 (rOff p + i))) (p := 10) (i := j) (v := zg t 24 (896 + j)) (rfl)]
    exact zM_congr (fun p i => by first | omega | (dsimp only; omega))

def newM (n : Nat) (v : Int32) : Int32 := if ¬ v < 100 then v else (if v < nI n then v else -1)
def newX (n : Nat) (v : Int32) : Int32 := if ¬ v = -1 ∧ ¬ 100 ≤ v then (if v < nI n then v else -1) else v
theorem sM_re_e (d n : Nat) : ∀ (f j N : Nat) (t : zS), j + f = 8 → f < N → zg t 0 0 = nI n → ∃ t', zexec skM (zcall zMs skM (d + 1)) zT_M_restore 1 N 119 [some (.inr (.inr 0)), some (.inl (nI j))] [] t = some (some (.inl (nI n)), t') ∧ (∀ k, zg t' 11 k = if j ≤ k ∧ k < 8 then newM n (zg t 11 k) else zg t 11 k) ∧ (∀ p i, p ≠ 11 → zg t' p i = zg t p i) ∧ (∀ p i, zgl t' p i = zgl t p i) := by
  intro f
  induction f with
  | zero =>
    intro j N t hj hN h0
    obtain ⟨N, rfl⟩ : ∃ N', N = N' + 1 := ⟨N - 1, by omega⟩
    refine ⟨t, ?_, fun k => by rw [if_neg (by omega)], fun _ _ _ => rfl, fun _ _ => rfl⟩
    rw [hM_M_restore_119]
    unfold bM_M_restore_119
    rw [if_pos (show (8 : Int32) ≤ nI j from nI_le (show 8 ≤ j by omega) (by omega)), h0]
  | succ f ih =>
    intro j N t hj hN h0
    obtain ⟨N, rfl⟩ : ∃ N', N = N' + 1 := ⟨N - 1, by omega⟩
    have hj8 : j < 8 := by omega
    have hir := sM_isRow d j t hj8
    have cont : ∀ u : zS, zg u 0 0 = nI n → (∀ k, zg u 11 k = if k = j then newM n (zg t 11 k) else zg t 11 k) → (∀ p i, p ≠ 11 → zg u p i = zg t p i) → (∀ p i, zgl u p i = zgl t p i) → zexec skM (zcall zMs skM (d + 1)) zT_M_restore 1 (N + 1) 119 [some (.inr (.inr 0)), some (.inl (nI j))] [] t = zexec skM (zcall zMs skM (d + 1)) zT_M_restore 1 N 119 [some (.inr (.inr 0)), some (.inl (nI (j + 1)))] [] u → ∃ t', zexec skM (zcall zMs skM (d + 1)) zT_M_restore 1 (N + 1) 119 [some (.inr (.inr 0)), some (.inl (nI j))] [] t = some (some (.inl (nI n)), t') ∧ (∀ k, zg t' 11 k = if j ≤ k ∧ k < 8 then newM n (zg t 11 k) else zg t 11 k) ∧ (∀ p i, p ≠ 11 → zg t' p i = zg t p i) ∧ (∀ p i, zgl t' p i = zgl t p i) := by
      intro u u0 u11 uo ul he
      obtain ⟨t', g1, g2, g3, g4⟩ := ih (j + 1) N u (by omega) (by omega) u0
      refine ⟨t', he.trans g1, fun k => ?_, fun p i hp => (g3 p i hp).trans (uo p i hp), fun p i => (g4 p i).trans (ul p i)⟩
      rw [g2, u11]
      by_cases hk : k = j
      · rw [if_neg (by omega), if_pos hk, if_pos (by omega)]
      · rw [if_neg hk]
        by_cases hr : j + 1 ≤ k ∧ k < 8
        · rw [if_pos hr, if_pos (by omega)]
        · rw [if_neg hr, if_neg (by omega)]
    by_cases c1 : ¬ zg t 11 j < 100
    · refine cont t h0 (fun k => ?_) (fun _ _ _ => rfl) (fun _ _ => rfl) ?_
      · by_cases hk : k = j
        · rw [if_pos hk, hk]
          unfold newM
          rw [if_pos c1]
        · rw [if_neg hk]
      · rw [hM_M_restore_119]
        unfold bM_M_restore_119
        rw [if_neg (show ¬ (8 : Int32) ≤ nI j from nI_ge hj8 (by decide)), hir, zcI_some, zBp_t c1, if_pos o1, nI_1]
    · by_cases c2 : zg t 11 j < nI n
      · refine cont t h0 (fun k => ?_) (fun _ _ _ => rfl) (fun _ _ => rfl) ?_
        · by_cases hk : k = j
          · rw [if_pos hk, hk]
            unfold newM
            rw [if_neg c1, if_pos c2]
          · rw [if_neg hk]
        · rw [hM_M_restore_119]
          unfold bM_M_restore_119
          rw [if_neg (show ¬ (8 : Int32) ≤ nI j from nI_ge hj8 (by decide)), hir, zcI_some, zBp_f c1, if_neg z0, zin_nI hj8 (by decide), nI_clamp (by omega), h0, if_pos c2, nI_1]
      · refine cont (zs t 11 j (-1)) h0 (fun k => ?_) (fun p i hp => zgz_ne hp) (fun _ _ => rfl) ?_
        · rw [zg_zs, if_pos rfl]
          by_cases hk : k = j
          · rw [if_pos hk, if_pos hk, hk]
            unfold newM
            rw [if_neg c1, if_neg c2]
          · rw [if_neg hk, if_neg hk]
        · rw [hM_M_restore_119]
          unfold bM_M_restore_119
          rw [if_neg (show ¬ (8 : Int32) ≤ nI j from nI_ge hj8 (by decide)), hir, zcI_some, zBp_f c1, if_neg z0, zin_nI hj8 (by decide), nI_clamp (by omega), h0, if_neg c2, zin_nI hj8 (by decide), nI_1]
theorem sX_dropO (d n : Nat) : ∀ (f j N : Nat) (s : zS), j + f = 8 → f < N → ∃ s', zexec skX (zcall zMs skX (d + 1)) zT_H_dropObjectsFrom 0 N 2 [some (.inr (.inr 32)), some (.inl (nI n)), some (.inl (nI j))] [] s = some (none, s') ∧ (∀ k, zg s' 33 k = if j ≤ k ∧ k < 8 then newX n (zg s 33 k) else zg s 33 k) ∧ (∀ p i, p ≠ 33 → zg s' p i = zg s p i) ∧ (∀ p i, zgl s' p i = zgl s p i) := by
  intro f
  induction f with
  | zero =>
    intro j N s hj hN
    obtain ⟨N, rfl⟩ : ∃ N', N = N' + 1 := ⟨N - 1, by omega⟩
    refine ⟨s, ?_, fun k => by rw [if_neg (by omega)], fun _ _ _ => rfl, fun _ _ => rfl⟩
    rw [hX_H_dropObjectsFrom_2]
    unfold bX_H_dropObjectsFrom_2
    rw [if_pos (show (8 : Int32) ≤ nI j from nI_le (show 8 ≤ j by omega) (by omega))]
  | succ f ih =>
    intro j N t hj hN
    obtain ⟨N, rfl⟩ : ∃ N', N = N' + 1 := ⟨N - 1, by omega⟩
    have hj8 : j < 8 := by omega
    have hir := sX_holdsObject d j t hj8
    have cont : ∀ u : zS, (∀ k, zg u 33 k = if k = j then newX n (zg t 33 k) else zg t 33 k) → (∀ p i, p ≠ 33 → zg u p i = zg t p i) → (∀ p i, zgl u p i = zgl t p i) → zexec skX (zcall zMs skX (d + 1)) zT_H_dropObjectsFrom 0 (N + 1) 2 [some (.inr (.inr 32)), some (.inl (nI n)), some (.inl (nI j))] [] t = zexec skX (zcall zMs skX (d + 1)) zT_H_dropObjectsFrom 0 N 2 [some (.inr (.inr 32)), some (.inl (nI n)), some (.inl (nI (j + 1)))] [] u → ∃ t', zexec skX (zcall zMs skX (d + 1)) zT_H_dropObjectsFrom 0 (N + 1) 2 [some (.inr (.inr 32)), some (.inl (nI n)), some (.inl (nI j))] [] t = some (none, t') ∧ (∀ k, zg t' 33 k = if j ≤ k ∧ k < 8 then newX n (zg t 33 k) else zg t 33 k) ∧ (∀ p i, p ≠ 33 → zg t' p i = zg t p i) ∧ (∀ p i, zgl t' p i = zgl t p i) := by
      intro u u11 uo ul he
      obtain ⟨t', g1, g2, g3, g4⟩ := ih (j + 1) N u (by omega) (by omega)
      refine ⟨t', he.trans g1, fun k => ?_, fun p i hp => (g3 p i hp).trans (uo p i hp), fun p i => (g4 p i).trans (ul p i)⟩
      rw [g2, u11]
      by_cases hk : k = j
      · rw [if_neg (by omega), if_pos hk, if_pos (by omega)]
      · rw [if_neg hk]
        by_cases hr : j + 1 ≤ k ∧ k < 8
        · rw [if_pos hr, if_pos (by omega)]
        · rw [if_neg hr, if_neg (by omega)]
    by_cases c1 : ¬ zg t 33 j = -1 ∧ ¬ 100 ≤ zg t 33 j
    · by_cases c2 : zg t 33 j < nI n
      · refine cont t (fun k => ?_) (fun _ _ _ => rfl) (fun _ _ => rfl) ?_
        · by_cases hk : k = j
          · rw [if_pos hk, hk]
            unfold newX
            rw [if_pos c1, if_pos c2]
          · rw [if_neg hk]
        · rw [hX_H_dropObjectsFrom_2]
          unfold bX_H_dropObjectsFrom_2
          rw [if_neg (show ¬ (8 : Int32) ≤ nI j from nI_ge hj8 (by decide)), hir, zcI_some, zBp_t c1, if_neg o1, zin_nI hj8 (by decide), nI_clamp (by omega), if_pos c2, nI_1]
      · refine cont (zs t 33 j (-1)) (fun k => ?_) (fun p i hp => zgz_ne hp) (fun _ _ => rfl) ?_
        · rw [zg_zs, if_pos rfl]
          by_cases hk : k = j
          · rw [if_pos hk, if_pos hk, hk]
            unfold newX
            rw [if_pos c1, if_neg c2]
          · rw [if_neg hk, if_neg hk]
        · rw [hX_H_dropObjectsFrom_2]
          unfold bX_H_dropObjectsFrom_2
          rw [if_neg (show ¬ (8 : Int32) ≤ nI j from nI_ge hj8 (by decide)), hir, zcI_some, zBp_t c1, if_neg o1, zin_nI hj8 (by decide), nI_clamp (by omega), if_neg c2, zin_nI hj8 (by decide), nI_1]
    · refine cont t (fun k => ?_) (fun _ _ _ => rfl) (fun _ _ => rfl) ?_
      · by_cases hk : k = j
        · rw [if_pos hk, hk]
          unfold newX
          rw [if_neg c1]
        · rw [if_neg hk]
      · rw [hX_H_dropObjectsFrom_2]
        unfold bX_H_dropObjectsFrom_2
        rw [if_neg (show ¬ (8 : Int32) ≤ nI j from nI_ge hj8 (by decide)), hir, zcI_some, zBp_f c1, if_pos (show (0 : Int32) = 0 from rfl), nI_1]
theorem sM_restore1 (d n : Nat) (t : zS) (hn : zg t 24 1088 = nI n) : ∃ t', zcV (zcall zMs skM (d + 2) 210 [.inr (.inr 0), .inr (.inr 24)] t) (fun s101 => zexec skM (zcall zMs skM (d + 2)) zT_M_restore 1 19999 13 [some (.inr (.inr 0)), some (.inl (0 : Int32))] [] s101) = some (some (.inl (nI n)), t') ∧ (zg t' 0 0 = zg t 24 1088 ∧ zg t' 0 10 = zg t 24 1089 ∧ zg t' 0 12 = zg t 24 1090) ∧ (∀ p i, (((p = 6 ∨ p = 7) ∧ i < 16) ∨ ((p = 8 ∨ p = 9) ∧ i < 256) ∨ ((p = 1 ∨ p = 2 ∨ p = 4) ∧ i < 16) ∨ (p = 3 ∧ i < 48) ∨ (p = 5 ∧ i < 256) ∨ (p = 10 ∧ i < 192)) → zg t' p i = zg t 24 (rOff p + i)) ∧ (∀ k, k < 8 → zg t' 11 k = newM n (zg t 11 k)) ∧ (∀ p i, 12 ≤ p → zg t' p i = zg t p i) ∧ (∀ i, 13 ≤ i → zg t' 0 i = zg t 0 i) ∧ (∀ p i, zgl t' p i = zgl t p i) := by
  have h1 := sM_re_a (zcall zMs skM (d + 2)) t 16 19983 0 rfl
  have h2 := sM_re_b (zcall zMs skM (d + 2)) t 48 19934 0 rfl
  have h3 := sM_re_c (zcall zMs skM (d + 2)) t 256 19677 0 rfl
  have h4 := sM_re_d (zcall zMs skM (d + 2)) t 192 19484 0 rfl
  rw [nI_0] at h1 h2 h3 h4
  rw [sM_again24, zcV_some, zM_congr (Q := fun p i => ((p = 6 ∨ p = 7) ∧ i < 16) ∨ ((p = 8 ∨ p = 9) ∧ i < 256) ∨ ((p = 1 ∨ p = 2 ∨ p = 4) ∧ i < 0)) (fun p i => by first | omega | (dsimp only; omega)), show (19999 : Nat) = 19983 + 16 from rfl, h1, hM_M_restore_13 _ 19982]
  unfold bM_M_restore_13
  rw [if_pos (show (16 : Int32) ≤ nI 16 by decide), zM_congr (Q := fun p i => ((p = 6 ∨ p = 7) ∧ i < 16) ∨ ((p = 8 ∨ p = 9) ∧ i < 256) ∨ ((p = 1 ∨ p = 2 ∨ p = 4) ∧ i < 16) ∨ (p = 3 ∧ i < 0)) (fun p i => by first | omega | (dsimp only; omega)), show (19982 : Nat) = 19934 + 48 from rfl, h2, hM_M_restore_50 _ 19933]
  unfold bM_M_restore_50
  rw [if_pos (show (48 : Int32) ≤ nI 48 by decide), zM_congr (Q := fun p i => ((p = 6 ∨ p = 7) ∧ i < 16) ∨ ((p = 8 ∨ p = 9) ∧ i < 256) ∨ ((p = 1 ∨ p = 2 ∨ p = 4) ∧ i < 16) ∨ (p = 3 ∧ i < 48) ∨ (p = 5 ∧ i < 0)) (fun p i => by first | omega | (dsimp only; omega)), show (19933 : Nat) = 19677 + 256 from rfl, h3, hM_M_restore_67 _ 19676]
  unfold bM_M_restore_67
  rw [if_pos (show (256 : Int32) ≤ nI 256 by decide), zM_congr (Q := fun p i => ((p = 6 ∨ p = 7) ∧ i < 16) ∨ ((p = 8 ∨ p = 9) ∧ i < 256) ∨ ((p = 1 ∨ p = 2 ∨ p = 4) ∧ i < 16) ∨ (p = 3 ∧ i < 48) ∨ (p = 5 ∧ i < 256) ∨ (p = 10 ∧ i < 0)) (fun p i => by first | omega | (dsimp only; omega)), show (19676 : Nat) = 19484 + 192 from rfl, h4, hM_M_restore_84 _ 19483]
  unfold bM_M_restore_84
  rw [if_pos (show (192 : Int32) ≤ nI 192 by decide)]
  have z0' : ∀ i, zg (zM t (fun p i => ((p = 6 ∨ p = 7) ∧ i < 16) ∨ ((p = 8 ∨ p = 9) ∧ i < 256) ∨ ((p = 1 ∨ p = 2 ∨ p = 4) ∧ i < 16) ∨ (p = 3 ∧ i < 48) ∨ (p = 5 ∧ i < 256) ∨ (p = 10 ∧ i < 192)) (fun p i => zg t 24 (rOff p + i))) 24 i = zg t 24 i := fun i => zM_out (by first | omega | (dsimp only; omega))
  have zo : ∀ p i, 11 ≤ p → zg (zM t (fun p i => ((p = 6 ∨ p = 7) ∧ i < 16) ∨ ((p = 8 ∨ p = 9) ∧ i < 256) ∨ ((p = 1 ∨ p = 2 ∨ p = 4) ∧ i < 16) ∨ (p = 3 ∧ i < 48) ∨ (p = 5 ∧ i < 256) ∨ (p = 10 ∧ i < 192)) (fun p i => zg t 24 (rOff p + i))) p i = zg t p i := fun p i hp => zM_out (by first | omega | (dsimp only; omega))
  have z00 : ∀ i, zg (zM t (fun p i => ((p = 6 ∨ p = 7) ∧ i < 16) ∨ ((p = 8 ∨ p = 9) ∧ i < 256) ∨ ((p = 1 ∨ p = 2 ∨ p = 4) ∧ i < 16) ∨ (p = 3 ∧ i < 48) ∨ (p = 5 ∧ i < 256) ∨ (p = 10 ∧ i < 192)) (fun p i => zg t 24 (rOff p + i))) 0 i = zg t 0 i := fun i => zM_out (by first | omega | (dsimp only; omega))
  have zin' : ∀ p i, (((p = 6 ∨ p = 7) ∧ i < 16) ∨ ((p = 8 ∨ p = 9) ∧ i < 256) ∨ ((p = 1 ∨ p = 2 ∨ p = 4) ∧ i < 16) ∨ (p = 3 ∧ i < 48) ∨ (p = 5 ∧ i < 256) ∨ (p = 10 ∧ i < 192)) → zg (zM t (fun p i => ((p = 6 ∨ p = 7) ∧ i < 16) ∨ ((p = 8 ∨ p = 9) ∧ i < 256) ∨ ((p = 1 ∨ p = 2 ∨ p = 4) ∧ i < 16) ∨ (p = 3 ∧ i < 48) ∨ (p = 5 ∧ i < 256) ∨ (p = 10 ∧ i < 192)) (fun p i => zg t 24 (rOff p + i))) p i = zg t 24 (rOff p + i) := fun p i hp => zM_in (P := fun p i => ((p = 6 ∨ p = 7) ∧ i < 16) ∨ ((p = 8 ∨ p = 9) ∧ i < 256) ∨ ((p = 1 ∨ p = 2 ∨ p = 4) ∧ i < 16) ∨ (p = 3 ∧ i < 48) ∨ (p = 5 ∧ i < 256) ∨ (p = 10 ∧ i < 192)) hp
  have zl : ∀ p i, zgl (zM t (fun p i => ((p = 6 ∨ p = 7) ∧ i < 16) ∨ ((p = 8 ∨ p = 9) ∧ i < 256) ∨ ((p = 1 ∨ p = 2 ∨ p = 4) ∧ i < 16) ∨ (p = 3 ∧ i < 48) ∨ (p = 5 ∧ i < 256) ∨ (p = 10 ∧ i < 192)) (fun p i => zg t 24 (rOff p + i))) p i = zgl t p i := fun _ _ => rfl
  rw [z0', z0', z0']
  generalize zM t (fun p i => ((p = 6 ∨ p = 7) ∧ i < 16) ∨ ((p = 8 ∨ p = 9) ∧ i < 256) ∨ ((p = 1 ∨ p = 2 ∨ p = 4) ∧ i < 16) ∨ (p = 3 ∧ i < 48) ∨ (p = 5 ∧ i < 256) ∨ (p = 10 ∧ i < 192)) (fun p i => zg t 24 (rOff p + i)) = u at z0' zo z00 zin' zl
  have hu0 : zg (zs (zs (zs u 0 0 (zg t 24 1088)) 0 10 (zg t 24 1089)) 0 12 (zg t 24 1090)) 0 0 = nI n := hn
  obtain ⟨t', g1, g2, g3, g4⟩ := sM_re_e (d + 1) n 8 0 19483 (zs (zs (zs u 0 0 (zg t 24 1088)) 0 10 (zg t 24 1089)) 0 12 (zg t 24 1090)) rfl (by omega) hu0
  rw [nI_0] at g1
  refine ⟨t', g1, ⟨?_, ?_, ?_⟩, fun p i hp => ?_, fun k hk => ?_, fun p i hp => ?_, fun i hi => ?_, fun p i => (g4 p i).trans (zl p i)⟩
  · rw [g3 0 _ (by decide)]; rfl
  · rw [g3 0 _ (by decide)]; rfl
  · rw [g3 0 _ (by decide)]; rfl
  · rw [g3 p i (by omega), zgz_ne (by omega), zgz_ne (by omega), zgz_ne (by omega), zin' p i hp]
  · rw [g2, if_pos ⟨Nat.zero_le _, hk⟩, zgz_ne (by decide), zgz_ne (by decide), zgz_ne (by decide), zo 11 k (by omega)]
  · rw [g3 p i (by omega), zgz_ne (by omega), zgz_ne (by omega), zgz_ne (by omega), zo p i (by omega)]
  · rw [g3 0 i (by decide), zgz_nj (by omega), zgz_nj (by omega), zgz_nj (by omega), z00]
theorem sim_restore : zSim aRel 115 212 [] := by
  intro s t h
  obtain ⟨d, hd⟩ := zDp_8
  rw [hd]
  obtain ⟨W, hf, hX, hM, h4, h5, h6⟩ := id h
  rcases h6 with ⟨i1, i2⟩ | ⟨i1, i2, W', hf', hX', hM'⟩
  · refine ⟨-6, _, _, ?_, ?_, aRel_refuse 6 h⟩
    · rw [aX_X_restore]
      unfold bX_X_restore_0
      rw [i1, if_neg z0, sX_refuse6, zcI_some]
    · rw [aM_M_restore]
      unfold bM_M_restore_0
      rw [i2, if_neg z0, sM_no6, zcI_some]
  · obtain ⟨s1, f1, f2, ⟨f30, f31, f32⟩, g1, g2, g3, g4, g5, g6, g7, g8, g9, f5⟩ := sX_back (d + 6) s
    have hn16 := hf'.1
    have hX1 : aX 2 s1 W' := aX_cp (a := 22) hf' f30 f31 f32 g1 g2 g3 g4 g5 g6 g7 g8 g9 hX'
    have hn1 : zg t 24 1088 = nI (aN W') := hM'.1
    obtain ⟨t1, e1, ⟨e2, e3, e4⟩, e5, e6, e7, e8, e9⟩ := sM_restore1 (d + 5) (aN W') t hn1
    obtain ⟨s2, k1, k2, k3, k4⟩ := sX_dropO (d + 5) (aN W') 8 0 19999 s1 rfl (by omega)
    rw [nI_0] at k1
    have hs2 : ∀ p i, p ≠ 33 → (p < 2 ∨ 12 ≤ p) → zg s2 p i = zg s p i := fun p i h1 h2 => (k3 p i h1).trans (f2 p i (by omega))
    have hs33 : ∀ k, k < 8 → zg s2 33 k = newX (aN W') (zg s 33 k) := fun k hk => by rw [k2, if_pos ⟨Nat.zero_le _, hk⟩, f2 33 k (by omega)]
    have hsl : ∀ p i, zgl s2 p i = zgl s p i := fun p i => (k4 p i).trans (f5 p i)
    have hro : ∀ p n i, rOff p + i = n → zg t 24 (rOff p + i) = zg t 24 n := fun p n i h => by rw [h]
    have hM1 : aMz t1 W' := by
      refine aMz_img (f := fun i => zg t 24 i) hf' e2 e3 e4 ?_ ?_ ?_ ?_ ?_ ?_ ?_ ?_ ?_ ?_ hM'
      · intro i hi
        rw [e5 6 i (by omega)]
        show zg t 24 (0 + i) = _
        rw [Nat.zero_add]
      · intro i hi
        exact e5 7 i (by omega)
      · intro i hi
        exact e5 8 i (by omega)
      · intro i hi
        exact e5 9 i (by omega)
      · intro i hi
        exact e5 1 i (by omega)
      · intro i hi
        exact e5 2 i (by omega)
      · intro i hi
        exact e5 4 i (by omega)
      · intro i hi
        exact e5 3 i (by omega)
      · intro i hi
        exact e5 5 i (by omega)
      · intro i hi
        exact e5 10 i (by omega)
    have hX2 : aX 2 s2 W' := aX_fr (fun p h2 h11 i => k3 p i (by omega)) hX1
    refine ⟨nI (aN W'), s2, t1, ?_, ?_, W', hf', hX2, aM_ofz hf' hM1, ?_, ?_, Or.inr ⟨?_, ?_, W', hf', ?_, ?_⟩⟩
    · rw [aX_X_restore]
      unfold bX_X_restore_0
      rw [i1, if_pos o1, f1, zcV_some, hX1.1, aX_H_dropObjectsFrom]
      unfold bX_H_dropObjectsFrom_0
      rw [k1, zcV_some, hX2.1]
    · rw [aM_M_restore]
      unfold bM_M_restore_0
      rw [i2, if_pos o1]
      exact e1
    · intro k hk
      obtain ⟨q1, hc⟩ := aSh_3 hk hf.1 h4
      have q2 : zg t1 11 k = newM (aN W') (zg s 33 k) := by rw [e6 k hk, q1]
      rw [hs33 k hk, q2]
      rcases hc with ⟨s1', s2', s3'⟩ | ⟨o, ho, s1', s2', s3'⟩ | ⟨r, m, hr, hm, s1', s2', s3', s4', s5', s6'⟩
      · have a1 : newX (aN W') (zg s 33 k) = -1 := by
          unfold newX
          rw [if_neg s3', s1']
        have a2 : newM (aN W') (zg s 33 k) = -1 := by
          unfold newM
          rw [if_neg s2', s1', if_pos]
          rw [zlt, nI_toInt (by omega), show (-1 : Int32).toInt = -1 by decide]
          omega
        exact ⟨a1.trans a2.symm, Or.inl a1⟩
      · by_cases hlt : o < aN W'
        · have hlt2 : zg s 33 k < nI (aN W') := by
            rw [s1']
            exact nI_lt hlt (by omega)
          have a1 : newX (aN W') (zg s 33 k) = nI o := by
            unfold newX
            rw [if_pos s3', if_pos hlt2, s1']
          have a2 : newM (aN W') (zg s 33 k) = nI o := by
            unfold newM
            rw [if_neg s2', if_pos hlt2, s1']
          exact ⟨a1.trans a2.symm, Or.inr (Or.inl ⟨o, hlt, a1⟩)⟩
        · have hlt2 : ¬ zg s 33 k < nI (aN W') := by
            rw [s1']
            exact nI_nlt (by omega) (by have := hf.1; omega)
          have a1 : newX (aN W') (zg s 33 k) = -1 := by
            unfold newX
            rw [if_pos s3', if_neg hlt2]
          have a2 : newM (aN W') (zg s 33 k) = -1 := by
            unfold newM
            rw [if_neg s2', if_neg hlt2]
          exact ⟨a1.trans a2.symm, Or.inl a1⟩
      · have a1 : newX (aN W') (zg s 33 k) = nI (100 + r) := by
          unfold newX
          rw [if_neg s3', s1']
        have a2 : newM (aN W') (zg s 33 k) = nI (100 + r) := by
          unfold newM
          rw [if_pos s2', s1']
        refine ⟨a1.trans a2.symm, Or.inr (Or.inr ⟨r, m, hr, hm, a1, ?_, ?_, fun i hi => ?_⟩)⟩
        · rw [hs2 34 k (by decide) (by omega), s4']
        · rw [e7 12 k (by omega), s5']
        · rw [hsl, e9, s6' i hi]
    · obtain ⟨r1, r2, r3, r4, k, hk, r5, r6, r7⟩ := h5
      refine ⟨fun j hj => ?_, ?_, ?_, ?_, k, hk, ?_, ?_, fun i hi hi30 => ?_⟩
      · rw [hs2 44 j (by decide) (by omega), e7 15 j (by omega), r1 j hj]
      · rw [hs2 0 8 (by decide) (by omega), e8 16 (by omega), r2]
      · rw [hs2 0 9 (by decide) (by omega), e8 30 (by omega), r3]
      · rw [hs2 0 10 (by decide) (by omega), e8 31 (by omega), r4]
      · rw [hs2 1 3 (by decide) (by omega), r5]
      · rw [e8 32 (by omega), r6]
      · rw [hs2 17 i (by decide) (by omega), e7 21 i (by omega), r7 i hi hi30]
    · rw [hs2 0 7 (by decide) (by omega), i1]
    · rw [e8 39 (by omega), i2]
    · have hq : ∀ p, 22 ≤ p → p ≤ 31 → ∀ i, zg s2 p i = zg s p i := fun p a b i => hs2 p i (by omega) (by omega)
      unfold aX at hX' ⊢
      simp only [hq 22 (by decide) (by decide), hq (22 + 1) (by decide) (by decide), hq (22 + 2) (by decide) (by decide), hq (22 + 3) (by decide) (by decide), hq (22 + 4) (by decide) (by decide), hq (22 + 5) (by decide) (by decide), hq (22 + 6) (by decide) (by decide), hq (22 + 7) (by decide) (by decide), hq (22 + 8) (by decide) (by decide), hq (22 + 9) (by decide) (by decide)]
      exact hX'
    · have he : (fun i => zg t1 24 i) = fun i => zg t 24 i := funext fun i => e7 24 i (by omega)
      rw [he]
      exact hM'
