/-! how many -/
def aCnt (p : Nat → Bool) : Nat → Nat
  | 0 => 0
  | k + 1 => aCnt p k + (p k).toNat
theorem nI_bits (x : Int32) : nI x.toBitVec.toNat = x := by
  apply Int32.toBitVec_inj.mp
  show (Int32.ofNat x.toBitVec.toNat).toBitVec = x.toBitVec
  rw [Int32.toBitVec_ofNat', BitVec.ofNat_toNat, BitVec.setWidth_eq]
theorem pc_bit (k n : Nat) (b : Bool) (h : k.testBit n = b) : k / 2 ^ n % 2 = b.toNat := by
  rw [← h, Nat.toNat_testBit]
theorem zBc_cnt (p : Nat → Bool) : zBc (aB p 16) = nI (aCnt p 16) := by
  have hb : ∀ b, b < 32 → (aB p 16).toBitVec.toNat.testBit b = (decide (b < 16) && p b) := fun b hb => aB_bit p 16 (Nat.le_refl _) b hb
  have hlt : (aB p 16).toBitVec.toNat < 2 ^ 16 := by
    apply Nat.lt_pow_two_of_testBit
    intro i hi
    by_cases h32 : i < 32
    · rw [hb i h32]
      simp [Nat.not_lt.mpr hi]
    · exact Nat.testBit_lt_two_pow (Nat.lt_of_lt_of_le (BitVec.isLt _) (Nat.pow_le_pow_right (by decide) (by omega)))
  generalize hk : (aB p 16).toBitVec.toNat = k at hb hlt
  have e : aB p 16 = nI k := by rw [← hk, nI_bits]
  have h := zBc_16 k (by omega)
  rw [e, h]
  have hp : ∀ b, b < 16 → k / 2 ^ b % 2 = (p b).toNat := fun b hb16 => pc_bit k b _ (by rw [hb b (by omega)]; simp [hb16])
  unfold pc16
  have q0 := hp 0 (by decide)
  have q1 := hp 1 (by decide)
  have q2 := hp 2 (by decide)
  have q3 := hp 3 (by decide)
  have q4 := hp 4 (by decide)
  have q5 := hp 5 (by decide)
  have q6 := hp 6 (by decide)
  have q7 := hp 7 (by decide)
  have q8 := hp 8 (by decide)
  have q9 := hp 9 (by decide)
  have q10 := hp 10 (by decide)
  have q11 := hp 11 (by decide)
  have q12 := hp 12 (by decide)
  have q13 := hp 13 (by decide)
  have q14 := hp 14 (by decide)
  have q15 := hp 15 (by decide)
  simp only [Nat.reducePow] at q0 q1 q2 q3 q4 q5 q6 q7 q8 q9 q10 q11 q12 q13 q14 q15
  rw [q0, q1, q2, q3, q4, q5, q6, q7, q8, q9, q10, q11, q12, q13, q14, q15]
  simp only [aCnt, Nat.zero_add]
def aSum (g : Nat → Int32) : Nat → Int32
  | 0 => 0
  | k + 1 => aSum g k + g k
theorem aSum_0 (g : Nat → Int32) : aSum g 0 = 0 := rfl
theorem aSum_s (g : Nat → Int32) (k : Nat) : aSum g (k + 1) = aSum g k + g k := rfl
def aMet (W : aW) (o b : Nat) : Bool := decide ((aS W o b).1 = 2)
theorem sX_sl_loop {W : aW} (d : Nat) (s : zS) (hf : aWf W) (hX : aX 2 s W) : ∀ (f n i : Nat), i + f = aN W → f < n → zexec skX (zcall zMs skX (d + 2)) zT_W_slotsOfAll 1 n 4 [some (.inr (.inr 2)), some (.inl (aSum (fun o => zBc (aB (aHas W o) 16)) i)), some (.inl (nI i))] [] s = some (some (.inl (aSum (fun o => zBc (aB (aHas W o) 16)) (aN W))), s) := by
  have hn16 := hf.1
  intro f
  induction f with
  | zero =>
    intro n i hi hn
    obtain ⟨n, rfl⟩ : ∃ n', n = n' + 1 := ⟨n - 1, by omega⟩
    obtain rfl : i = aN W := by omega
    rw [hX_W_slotsOfAll_4]
    unfold bX_W_slotsOfAll_4
    rw [hX.1, if_pos (nI_le (by omega) (by omega))]
  | succ f ih =>
    intro n i hi hn
    obtain ⟨n, rfl⟩ : ∃ n', n = n' + 1 := ⟨n - 1, by omega⟩
    have nx := ih n (i + 1) (by omega) (by omega)
    rw [aSum_s] at nx
    rw [hX_W_slotsOfAll_4]
    unfold bX_W_slotsOfAll_4
    rw [hX.1, if_neg (nI_ge (by omega) (by omega)), sX_ownSlots d i s hf hX (by omega), zcI_some, sX_bitCount (d + 1), zcI_some, nI_1]
    exact nx
theorem sX_slotsOfAll {W : aW} (d : Nat) (s : zS) (hf : aWf W) (hX : aX 2 s W) : zcall zMs skX (d + 3) 78 [.inr (.inr 2)] s = some (some (.inl (aSum (fun o => zBc (aB (aHas W o) 16)) (aN W))), s) := by
  have := sX_sl_loop d s hf hX (aN W) 19999 0 (by omega) (by have := hf.1; omega)
  rw [nI_0, aSum_0] at this
  rw [aX_W_slotsOfAll]
  unfold bX_W_slotsOfAll_0
  exact this
theorem sM_sl_loop {W : aW} (d : Nat) (t : zS) (hf : aWf W) (hM : aM (mFl t) W) : ∀ (f n i : Nat), i + f = aN W → f < n → zexec skM (zcall zMs skM (d + 1)) zT_M_allSlots 1 n 4 [some (.inr (.inr 0)), some (.inl (aSum (fun o => zBc (aB (aHas W o) 16)) i)), some (.inl (nI i))] [] t = some (some (.inl (aSum (fun o => zBc (aB (aHas W o) 16)) (aN W))), t) := by
  have hn16 := hf.1
  intro f
  induction f with
  | zero =>
    intro n i hi hn
    obtain ⟨n, rfl⟩ : ∃ n', n = n' + 1 := ⟨n - 1, by omega⟩
    obtain rfl : i = aN W := by omega
    rw [hM_M_allSlots_4]
    unfold bM_M_allSlots_4
    rw [aM_n hM, if_pos (nI_le (by omega) (by omega))]
  | succ f ih =>
    intro n i hi hn
    obtain ⟨n, rfl⟩ : ∃ n', n = n' + 1 := ⟨n - 1, by omega⟩
    have nx := ih n (i + 1) (by omega) (by omega)
    rw [aSum_s] at nx
    rw [hM_M_allSlots_4]
    unfold bM_M_allSlots_4
    rw [aM_n hM, if_neg (nI_ge (by omega) (by omega)), zin_nI (by omega) (by omega), nI_clamp (by omega), aM_has hf hM (show i < aN W by omega), sM_bitCount d, zcI_some, nI_1]
    exact nx
theorem sM_allSlots {W : aW} (d : Nat) (t : zS) (hf : aWf W) (hM : aM (mFl t) W) : zcall zMs skM (d + 2) 206 [.inr (.inr 0)] t = some (some (.inl (aSum (fun o => zBc (aB (aHas W o) 16)) (aN W))), t) := by
  have := sM_sl_loop d t hf hM (aN W) 19999 0 (by omega) (by have := hf.1; omega)
  rw [nI_0, aSum_0] at this
  rw [aM_M_allSlots]
  unfold bM_M_allSlots_0
  exact this
theorem sM_me_loop {W : aW} (d : Nat) (t : zS) (hf : aWf W) (hM : aM (mFl t) W) : ∀ (f n i : Nat), i + f = aN W → f < n → zexec skM (zcall zMs skM (d + 1)) zT_M_allMethods 1 n 4 [some (.inr (.inr 0)), some (.inl (aSum (fun o => zBc (aB (aMet W o) 16)) i)), some (.inl (nI i))] [] t = some (some (.inl (aSum (fun o => zBc (aB (aMet W o) 16)) (aN W))), t) := by
  have hn16 := hf.1
  intro f
  induction f with
  | zero =>
    intro n i hi hn
    obtain ⟨n, rfl⟩ : ∃ n', n = n' + 1 := ⟨n - 1, by omega⟩
    obtain rfl : i = aN W := by omega
    rw [hM_M_allMethods_4]
    unfold bM_M_allMethods_4
    rw [aM_n hM, if_pos (nI_le (by omega) (by omega))]
  | succ f ih =>
    intro n i hi hn
    obtain ⟨n, rfl⟩ : ∃ n', n = n' + 1 := ⟨n - 1, by omega⟩
    have nx := ih n (i + 1) (by omega) (by omega)
    rw [aSum_s] at nx
    rw [hM_M_allMethods_4]
    unfold bM_M_allMethods_4
    rw [aM_n hM, if_neg (nI_ge (by omega) (by omega)), zin_nI (by omega) (by omega), nI_clamp (by omega), show zg t 7 i = aB (aMet W i) 16 from ((aMz_of hf hM).2.2.2.2.1 i (by omega)).2, sM_bitCount d, zcI_some, nI_1]
    exact nx
theorem sM_allMethods {W : aW} (d : Nat) (t : zS) (hf : aWf W) (hM : aM (mFl t) W) : zcall zMs skM (d + 2) 213 [.inr (.inr 0)] t = some (some (.inl (aSum (fun o => zBc (aB (aMet W o) 16)) (aN W))), t) := by
  have := sM_me_loop d t hf hM (aN W) 19999 0 (by omega) (by have := hf.1; omega)
  rw [nI_0, aSum_0] at this
  rw [aM_M_allMethods]
  unfold bM_M_allMethods_0
  exact this
