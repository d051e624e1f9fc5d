/-! status -/
theorem aCnt_add (q : Nat → Bool) (a : Nat) : ∀ b, aCnt q (a + b) = aCnt q a + aCnt (fun i => q (a + i)) b := by
  intro b
  induction b with
  | zero => rfl
  | succ b ih =>
    show aCnt q (a + b) + (q (a + b)).toNat = aCnt q a + (aCnt (fun i => q (a + i)) b + (q (a + b)).toNat)
    rw [ih]
    omega
theorem aCnt_congr {p q : Nat → Bool} : ∀ k, (∀ b, b < k → p b = q b) → aCnt p k = aCnt q k := by
  intro k
  induction k with
  | zero => intro _; rfl
  | succ k ih =>
    intro h
    unfold aCnt
    rw [ih (fun b hb => h b (by omega)), h k (by omega)]
def aMq (W : aW) (j : Nat) : Bool := aMet W (j / 16) (j % 16)
theorem aCnt_met (W : aW) : ∀ n, nI (aCnt (aMq W) (16 * n)) = aSum (fun o => zBc (aB (aMet W o) 16)) n := by
  intro n
  induction n with
  | zero => rfl
  | succ n ih =>
    rw [show 16 * (n + 1) = 16 * n + 16 by omega, aCnt_add, aSum_s, ← ih, zBc_cnt, nI_add]
    congr 2
    exact aCnt_congr 16 (fun b hb => by
      unfold aMq
      rw [show (16 * n + b) / 16 = n by omega, show (16 * n + b) % 16 = b by omega])
theorem nmul16 (k : Nat) : nI k * (16 : Int32) = nI (16 * k) := by
  rw [show (16 : Int32) = nI 16 from rfl, pk_mul, Nat.mul_comm]
theorem sX_me_loop {W : aW} (C : Nat → List zV → zS → zR) (s : zS) (hf : aWf W) (hX : aX 2 s W) : ∀ (f n j : Nat), j + f = 16 * aN W → f < n → zexec skX C zT_W_methodsOfAll 1 n 4 [some (.inr (.inr 2)), some (.inl (nI (aCnt (aMq W) j))), some (.inl (nI j))] [] s = some (some (.inl (nI (aCnt (aMq W) (16 * aN W)))), s) := by
  have hn16 := hf.1
  intro f
  induction f with
  | zero =>
    intro n j hj hn
    obtain ⟨n, rfl⟩ : ∃ n', n = n' + 1 := ⟨n - 1, by omega⟩
    obtain rfl : j = 16 * aN W := by omega
    rw [hX_W_methodsOfAll_4]
    unfold bX_W_methodsOfAll_4
    rw [hX.1, nmul16, if_pos (nI_le (by omega) (by omega))]
  | succ f ih =>
    intro n j hj hn
    obtain ⟨n, rfl⟩ : ∃ n', n = n' + 1 := ⟨n - 1, by omega⟩
    have nx := ih n (j + 1) (by omega) (by omega)
    have hs := aX_slot hX (show j / 16 < aN W by omega) (show j % 16 < 16 by omega)
    rw [show j / 16 * 16 + j % 16 = j by omega] at hs
    have ht := aWf_tag hf (show j / 16 < aN W by omega) (show j % 16 < 16 by omega)
    rw [hX_W_methodsOfAll_4]
    unfold bX_W_methodsOfAll_4
    rw [hX.1, nmul16, if_neg (nI_ge (by omega) (by omega)), zin_nI (by omega) (by omega), nI_clamp (by omega), hs]
    by_cases hh : (aS W (j / 16) (j % 16)).1 = 2
    · have hz : aMq W j = true := decide_eq_true hh
      have e : aCnt (aMq W) (j + 1) = aCnt (aMq W) j + 1 := by
        rw [aCnt, hz]
        rfl
      rw [if_neg (fun c => c ((nI_is2 _ ht).mpr hh)), nI_1, nI_1, ← e]
      exact nx
    · have hz : aMq W j = false := decide_eq_false hh
      have e : aCnt (aMq W) (j + 1) = aCnt (aMq W) j := by
        rw [aCnt, hz]
        rfl
      rw [e] at nx
      rw [if_pos (fun c => hh ((nI_is2 _ ht).mp c)), nI_1]
      exact nx
theorem aCnt_0 (q : Nat → Bool) : aCnt q 0 = 0 := rfl
theorem sX_methodsOfAll {W : aW} (d : Nat) (s : zS) (hf : aWf W) (hX : aX 2 s W) : zcall zMs skX (d + 1) 79 [.inr (.inr 2)] s = some (some (.inl (aSum (fun o => zBc (aB (aMet W o) 16)) (aN W))), s) := by
  have := sX_me_loop (zcall zMs skX d) s hf hX (16 * aN W) 19999 0 (by omega) (by have := hf.1; omega)
  rw [aCnt_0, nI_0, aCnt_met] at this
  rw [aX_W_methodsOfAll]
  unfold bX_W_methodsOfAll_0
  exact this
theorem sim_status (a1 : Int32) : zSim aRel 116 214 [.inl a1] := by
  intro s t h
  obtain ⟨d, hd⟩ := zDp_8
  rw [hd]
  obtain ⟨W, hf, hX, hM, -, h5, -⟩ := id h
  have hn := hf.1
  obtain ⟨z1, -, -, z4, k, hk, z5, z6, -⟩ := h5
  have m1 := aMz_of hf hM
  rw [aX_X_status, aM_M_status]
  unfold bX_X_status_0 bM_M_status_0
  rw [sM_within, zcI_some]
  by_cases c0 : a1 = (0 : Int32)
  · subst c0
    refine ⟨nI (aN W), s, t, ?_, ?_, h⟩
    · rw [if_pos (show (0 : Int32) = (0 : Int32) from rfl), hX.1]
    · rw [zBp_f (by decide), if_pos (show (0 : Int32) = 0 from rfl), if_pos (show (0 : Int32) = (0 : Int32) from rfl), m1.1]
  by_cases c1 : a1 = ((0 : Int32) + 1)
  · subst c1
    refine ⟨nI (aWn W), s, t, ?_, ?_, h⟩
    · rw [if_neg (show ¬ ((0 : Int32) + 1) = (0 : Int32) by decide), if_pos (show ((0 : Int32) + 1) = ((0 : Int32) + 1) from rfl), hX.2.1]
    · rw [zBp_f (by decide), if_pos (show (0 : Int32) = 0 from rfl), if_neg (show ¬ ((0 : Int32) + 1) = (0 : Int32) by decide), if_pos (show ((0 : Int32) + 1) = ((0 : Int32) + 1) from rfl), m1.2.1]
  by_cases c2 : a1 = (((0 : Int32) + 1) + 1)
  · subst c2
    refine ⟨aSum (fun o => zBc (aB (aHas W o) 16)) (aN W), s, t, ?_, ?_, h⟩
    · rw [if_neg (show ¬ (((0 : Int32) + 1) + 1) = (0 : Int32) by decide), if_neg (show ¬ (((0 : Int32) + 1) + 1) = ((0 : Int32) + 1) by decide), if_pos (show (((0 : Int32) + 1) + 1) = (((0 : Int32) + 1) + 1) from rfl), sX_slotsOfAll _ s hf hX, zcI_some]
    · rw [zBp_f (by decide), if_pos (show (0 : Int32) = 0 from rfl), if_neg (show ¬ (((0 : Int32) + 1) + 1) = (0 : Int32) by decide), if_neg (show ¬ (((0 : Int32) + 1) + 1) = ((0 : Int32) + 1) by decide), if_pos (show (((0 : Int32) + 1) + 1) = (((0 : Int32) + 1) + 1) from rfl), sM_allSlots _ t hf hM, zcI_some]
  by_cases c3 : a1 = ((((0 : Int32) + 1) + 1) + 1)
  · subst c3
    refine ⟨aSum (fun o => zBc (aB (aMet W o) 16)) (aN W), s, t, ?_, ?_, h⟩
    · rw [if_neg (show ¬ ((((0 : Int32) + 1) + 1) + 1) = (0 : Int32) by decide), if_neg (show ¬ ((((0 : Int32) + 1) + 1) + 1) = ((0 : Int32) + 1) by decide), if_neg (show ¬ ((((0 : Int32) + 1) + 1) + 1) = (((0 : Int32) + 1) + 1) by decide), if_pos (show ((((0 : Int32) + 1) + 1) + 1) = ((((0 : Int32) + 1) + 1) + 1) from rfl), sX_methodsOfAll _ s hf hX, zcI_some]
    · rw [zBp_f (by decide), if_pos (show (0 : Int32) = 0 from rfl), if_neg (show ¬ ((((0 : Int32) + 1) + 1) + 1) = (0 : Int32) by decide), if_neg (show ¬ ((((0 : Int32) + 1) + 1) + 1) = ((0 : Int32) + 1) by decide), if_neg (show ¬ ((((0 : Int32) + 1) + 1) + 1) = (((0 : Int32) + 1) + 1) by decide), if_pos (show ((((0 : Int32) + 1) + 1) + 1) = ((((0 : Int32) + 1) + 1) + 1) from rfl), sM_allMethods _ t hf hM, zcI_some]
  by_cases c4 : a1 = (((((0 : Int32) + 1) + 1) + 1) + 1)
  · subst c4
    refine ⟨aSd W, s, t, ?_, ?_, h⟩
    · rw [if_neg (show ¬ (((((0 : Int32) + 1) + 1) + 1) + 1) = (0 : Int32) by decide), if_neg (show ¬ (((((0 : Int32) + 1) + 1) + 1) + 1) = ((0 : Int32) + 1) by decide), if_neg (show ¬ (((((0 : Int32) + 1) + 1) + 1) + 1) = (((0 : Int32) + 1) + 1) by decide), if_neg (show ¬ (((((0 : Int32) + 1) + 1) + 1) + 1) = ((((0 : Int32) + 1) + 1) + 1) by decide), if_pos (show (((((0 : Int32) + 1) + 1) + 1) + 1) = (((((0 : Int32) + 1) + 1) + 1) + 1) from rfl), hX.2.2.1]
    · rw [zBp_f (by decide), if_pos (show (0 : Int32) = 0 from rfl), if_neg (show ¬ (((((0 : Int32) + 1) + 1) + 1) + 1) = (0 : Int32) by decide), if_neg (show ¬ (((((0 : Int32) + 1) + 1) + 1) + 1) = ((0 : Int32) + 1) by decide), if_neg (show ¬ (((((0 : Int32) + 1) + 1) + 1) + 1) = (((0 : Int32) + 1) + 1) by decide), if_neg (show ¬ (((((0 : Int32) + 1) + 1) + 1) + 1) = ((((0 : Int32) + 1) + 1) + 1) by decide), if_pos (show (((((0 : Int32) + 1) + 1) + 1) + 1) = (((((0 : Int32) + 1) + 1) + 1) + 1) from rfl), m1.2.2.1]
  by_cases c5 : a1 = ((((((0 : Int32) + 1) + 1) + 1) + 1) + 1)
  · subst c5
    refine ⟨nI k, s, t, ?_, ?_, h⟩
    · rw [if_neg (show ¬ ((((((0 : Int32) + 1) + 1) + 1) + 1) + 1) = (0 : Int32) by decide), if_neg (show ¬ ((((((0 : Int32) + 1) + 1) + 1) + 1) + 1) = ((0 : Int32) + 1) by decide), if_neg (show ¬ ((((((0 : Int32) + 1) + 1) + 1) + 1) + 1) = (((0 : Int32) + 1) + 1) by decide), if_neg (show ¬ ((((((0 : Int32) + 1) + 1) + 1) + 1) + 1) = ((((0 : Int32) + 1) + 1) + 1) by decide), if_neg (show ¬ ((((((0 : Int32) + 1) + 1) + 1) + 1) + 1) = (((((0 : Int32) + 1) + 1) + 1) + 1) by decide), if_pos (show ((((((0 : Int32) + 1) + 1) + 1) + 1) + 1) = ((((((0 : Int32) + 1) + 1) + 1) + 1) + 1) from rfl), z5]
    · rw [zBp_f (by decide), if_pos (show (0 : Int32) = 0 from rfl), if_neg (show ¬ ((((((0 : Int32) + 1) + 1) + 1) + 1) + 1) = (0 : Int32) by decide), if_neg (show ¬ ((((((0 : Int32) + 1) + 1) + 1) + 1) + 1) = ((0 : Int32) + 1) by decide), if_neg (show ¬ ((((((0 : Int32) + 1) + 1) + 1) + 1) + 1) = (((0 : Int32) + 1) + 1) by decide), if_neg (show ¬ ((((((0 : Int32) + 1) + 1) + 1) + 1) + 1) = ((((0 : Int32) + 1) + 1) + 1) by decide), if_neg (show ¬ ((((((0 : Int32) + 1) + 1) + 1) + 1) + 1) = (((((0 : Int32) + 1) + 1) + 1) + 1) by decide), if_pos (show ((((((0 : Int32) + 1) + 1) + 1) + 1) + 1) = ((((((0 : Int32) + 1) + 1) + 1) + 1) + 1) from rfl), z6]
  by_cases c6 : a1 = (((((((0 : Int32) + 1) + 1) + 1) + 1) + 1) + 1)
  · subst c6
    refine ⟨zg t 0 31, s, t, ?_, ?_, h⟩
    · rw [if_neg (show ¬ (((((((0 : Int32) + 1) + 1) + 1) + 1) + 1) + 1) = (0 : Int32) by decide), if_neg (show ¬ (((((((0 : Int32) + 1) + 1) + 1) + 1) + 1) + 1) = ((0 : Int32) + 1) by decide), if_neg (show ¬ (((((((0 : Int32) + 1) + 1) + 1) + 1) + 1) + 1) = (((0 : Int32) + 1) + 1) by decide), if_neg (show ¬ (((((((0 : Int32) + 1) + 1) + 1) + 1) + 1) + 1) = ((((0 : Int32) + 1) + 1) + 1) by decide), if_neg (show ¬ (((((((0 : Int32) + 1) + 1) + 1) + 1) + 1) + 1) = (((((0 : Int32) + 1) + 1) + 1) + 1) by decide), if_neg (show ¬ (((((((0 : Int32) + 1) + 1) + 1) + 1) + 1) + 1) = ((((((0 : Int32) + 1) + 1) + 1) + 1) + 1) by decide), if_pos (show (((((((0 : Int32) + 1) + 1) + 1) + 1) + 1) + 1) = (((((((0 : Int32) + 1) + 1) + 1) + 1) + 1) + 1) from rfl), z4]
    · rw [zBp_f (by decide), if_pos (show (0 : Int32) = 0 from rfl), if_neg (show ¬ (((((((0 : Int32) + 1) + 1) + 1) + 1) + 1) + 1) = (0 : Int32) by decide), if_neg (show ¬ (((((((0 : Int32) + 1) + 1) + 1) + 1) + 1) + 1) = ((0 : Int32) + 1) by decide), if_neg (show ¬ (((((((0 : Int32) + 1) + 1) + 1) + 1) + 1) + 1) = (((0 : Int32) + 1) + 1) by decide), if_neg (show ¬ (((((((0 : Int32) + 1) + 1) + 1) + 1) + 1) + 1) = ((((0 : Int32) + 1) + 1) + 1) by decide), if_neg (show ¬ (((((((0 : Int32) + 1) + 1) + 1) + 1) + 1) + 1) = (((((0 : Int32) + 1) + 1) + 1) + 1) by decide), if_neg (show ¬ (((((((0 : Int32) + 1) + 1) + 1) + 1) + 1) + 1) = ((((((0 : Int32) + 1) + 1) + 1) + 1) + 1) by decide), if_pos (show (((((((0 : Int32) + 1) + 1) + 1) + 1) + 1) + 1) = (((((((0 : Int32) + 1) + 1) + 1) + 1) + 1) + 1) from rfl)]
  by_cases hw : (11 : Int32).toInt ≤ a1.toInt ∧ a1.toInt ≤ (17 : Int32).toInt
  · have e11 : (11 : Int32).toInt = 11 := by decide
    have e17 : (17 : Int32).toInt = 17 := by decide
    have e10 : (10 : Int32).toInt = 10 := by decide
    have hw2 := hw
    rw [e11, e17] at hw2
    obtain ⟨i, hi, hi2⟩ : ∃ i : Nat, i < 8 ∧ a1 - 10 = nI i := by
      refine ⟨(a1.toInt - 10).toNat, by omega, ?_⟩
      apply Int32.toInt_inj.mp
      rw [Int32.toInt_sub, nI_toInt (by omega), e10, Int.bmod_eq_of_le (by omega) (by omega)]
      omega
    refine ⟨zg t 15 i, s, t, ?_, ?_, h⟩
    · rw [if_neg c0, if_neg c1, if_neg c2, if_neg c3, if_neg c4, if_neg c5, if_neg c6, if_neg (by rw [zle, e10]; omega), if_neg (by rw [zlt, e17]; omega), hi2, zin_nI hi (by omega), nI_clamp (by omega), z1 i hi]
    · rw [zBp_t hw, if_neg o1, hi2, zin_nI hi (by omega), nI_clamp (by omega)]
  · refine ⟨-1, s, t, ?_, ?_, h⟩
    · rw [if_neg c0, if_neg c1, if_neg c2, if_neg c3, if_neg c4, if_neg c5, if_neg c6]
      by_cases c : a1 ≤ 10
      · rw [if_pos c]
      · rw [if_neg c, if_pos]
        rw [zle, show (10 : Int32).toInt = 10 by decide] at c
        rw [show (11 : Int32).toInt = 11 by decide, show (17 : Int32).toInt = 17 by decide] at hw
        rw [zlt, show (17 : Int32).toInt = 17 by decide]
        omega
    · rw [zBp_f hw, if_pos (show (0 : Int32) = 0 from rfl), if_neg c0, if_neg c1, if_neg c2, if_neg c3, if_neg c4, if_neg c5, if_neg c6]
