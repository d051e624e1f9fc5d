/-! BITS of slots; slots found -/
theorem aB_one : ∀ k, k < 16 → ∀ i, i < 32 → ((1 : Int32) <<< (nI k &&& 31)).toBitVec.getLsbD i = decide (i = k) := by decide +kernel
theorem aB_bit (p : Nat → Bool) : ∀ k, k ≤ 16 → ∀ i, i < 32 → (aB p k).toBitVec.getLsbD i = (decide (i < k) && p i) := by
  intro k
  induction k with
  | zero =>
    intro _ i hi
    simp [aB]
  | succ k ih =>
    intro hk i hi
    have h1 := ih (by omega) i hi
    unfold aB
    by_cases hp : p k = true
    · rw [if_pos hp, Int32.toBitVec_or, BitVec.getLsbD_or, h1, aB_one k (by omega) i hi]
      by_cases he : i = k
      · subst he
        simp [hp]
      · have : decide (i < k + 1) = decide (i < k) := by simp; omega
        rw [this]
        simp [he]
    · rw [if_neg hp, h1]
      by_cases he : i = k
      · subst he
        simp at hp
        simp [hp]
      · have : decide (i < k + 1) = decide (i < k) := by simp; omega
        rw [this]
theorem aB_ext {x y : Int32} (h : ∀ i, i < 32 → x.toBitVec.getLsbD i = y.toBitVec.getLsbD i) : x = y := by
  apply Int32.toBitVec_inj.mp
  exact BitVec.eq_of_getLsbD_eq h
theorem sh_mod : ∀ k, k < 16 → ((nI k &&& 31).toBitVec.smod 32).toNat = k := by decide +kernel
theorem sh_bit (x : Int32) (k : Nat) (hk : k < 16) : ((x >>> (nI k &&& 31)) &&& 1) = if x.toBitVec.getLsbD k = true then 1 else 0 := by
  rw [pk_and _ 1 (by decide)]
  have e : (x >>> (nI k &&& 31)).toBitVec = x.toBitVec.sshiftRight k := by
    show x.toBitVec.sshiftRight ((nI k &&& 31).toBitVec.smod 32).toNat = _
    rw [sh_mod k hk]
  rw [e]
  have h0 : (x.toBitVec.sshiftRight k).getLsbD 0 = x.toBitVec.getLsbD k := by
    rw [BitVec.getLsbD_sshiftRight]
    simp
    omega
  have h1 : (x.toBitVec.sshiftRight k).toNat % 2 ^ 1 = ((x.toBitVec.sshiftRight k).getLsbD 0).toNat := by
    unfold BitVec.getLsbD
    rw [Nat.testBit_zero]
    rcases Nat.mod_two_eq_zero_or_one (x.toBitVec.sshiftRight k).toNat with h | h <;> simp [h]
  rw [h1, h0]
  cases x.toBitVec.getLsbD k <;> rfl
theorem sM_isIn (d : Nat) (p : Nat → Bool) (k : Nat) (hk : k < 16) (s : zS) : zcall zMs skM (d + 1) 131 [.inl (aB p 16), .inl (nI k)] s = some (some (.inl (zBp (p k = true))), s) := by
  rw [aM_M_isIn]
  unfold bM_M_isIn_0
  rw [sh_bit _ k hk, aB_bit p 16 (Nat.le_refl _) k (by omega)]
  simp only [hk, decide_true, Bool.true_and]
  by_cases hp : p k = true
  · rw [if_pos hp, if_neg (by decide), zBp_t hp]
    rfl
  · rw [if_neg hp, if_pos (by decide), zBp_f hp]
    rfl
theorem aX_slot {s : zS} {W : aW} (hX : aX 2 s W) {o i : Nat} (ho : o < aN W) (hi : i < 16) : zg s 8 (o * 16 + i) = nI (aS W o i).1 := (hX.2.2.2.2.1 o i ho hi).1
theorem aWf_tag {W : aW} (h : aWf W) {o i : Nat} (ho : o < aN W) (hi : i < 16) : (aS W o i).1 ≤ 2 := (h.2.2.2.1 o i ho hi).1
/-- does the object have the slot itself -/
def aHas (W : aW) (o i : Nat) : Bool := decide ((aS W o i).1 ≠ 0)
theorem sX_hasOwn {W : aW} (d o i : Nat) (s : zS) (hf : aWf W) (hX : aX 2 s W) (ho : o < aN W) (hi : i < 16) : zcall zMs skX (d + 1) 68 [.inr (.inr 2), .inl (nI o), .inl (nI i)] s = some (some (.inl (zBp (aHas W o i = true))), s) := by
  have h16 := aWf_lt hf ho
  have ht := aWf_tag hf ho hi
  rw [aX_W_hasOwn]
  unfold bX_W_hasOwn_0
  rw [nlit16, zin_nI (by omega) (by omega), nI_clamp (by omega), aX_slot hX ho hi]
  unfold aHas
  by_cases h0 : (aS W o i).1 = 0
  · rw [h0, if_pos nI_0, zBp_f (by simp)]
    rfl
  · rw [if_neg (nI_ne0 (by omega) (by omega)), zBp_t (by simp [h0])]
    rfl
theorem aM_has {t : zS} {W : aW} (hf : aWf W) (hM : aM (mFl t) W) {o : Nat} (ho : o < aN W) : zg t 6 o = aB (aHas W o) 16 := by
  rw [← mFl_has t o (aWf_lt hf ho)]
  exact (hM.2.2.2.2.1 o ho).1
theorem sX_pf_loop {W : aW} (d o i : Nat) (s : zS) (hf : aWf W) (hX : aX 2 s W) (ho : o < aN W) (hi : i < 16) : ∀ (f n j : Nat), j + f = (aO W o).length → f < n → zexec skX (zcall zMs skX (d + 1)) zT_W_placeFrom 1 n 2 [some (.inr (.inr 2)), some (.inl (nI o)), some (.inl (nI i)), none, some (.inl (nI j))] [] s = some (some (.inl (aFst (fun x => aHas W x i) ((aO W o).drop j) j)), s) := by
  have h16 := aWf_lt hf ho
  have hlen := aWf_len hf ho
  intro f
  induction f with
  | zero =>
    intro n j hj hn
    obtain ⟨n, rfl⟩ : ∃ n', n = n' + 1 := ⟨n - 1, by omega⟩
    rw [hX_W_placeFrom_2]
    unfold bX_W_placeFrom_2
    rw [zin_nI h16 (by omega), nI_clamp (by omega), aX_osz hX ho, if_pos (nI_le (by omega) (by omega)), List.drop_eq_nil_of_le (by omega)]
    rfl
  | succ f ih =>
    intro n j hj hn
    obtain ⟨n, rfl⟩ : ∃ n', n = n' + 1 := ⟨n - 1, by omega⟩
    have hjl : j < (aO W o).length := by omega
    have hg : (aO W o)[j]? = some (aO W o)[j] := List.getElem?_eq_getElem hjl
    have hm := aWf_mem hf ho (List.getElem_mem hjl)
    rw [hX_W_placeFrom_2]
    unfold bX_W_placeFrom_2
    rw [zin_nI h16 (by omega), nI_clamp (by omega), aX_osz hX ho, if_neg (nI_ge hjl (by omega)), sX_orderAt d o j s h16 (by omega), zcI_some, aX_ord hX ho hg, sX_hasOwn d _ i s hf hX hm hi, zcI_some, List.drop_eq_getElem_cons hjl]
    unfold aFst
    by_cases he : aHas W (aO W o)[j] i = true
    · rw [zBp_t he, if_neg (by decide), if_pos he]
    · rw [zBp_f he, if_pos rfl, if_neg he, nI_1]
      exact ih n (j + 1) (by omega) (by omega)
theorem sX_placeFrom {W : aW} (d o i j : Nat) (s : zS) (hf : aWf W) (hX : aX 2 s W) (ho : o < aN W) (hi : i < 16) (hj : j ≤ (aO W o).length) : zcall zMs skX (d + 2) 72 [.inr (.inr 2), .inl (nI o), .inl (nI i), .inl (nI j)] s = some (some (.inl (aFst (fun x => aHas W x i) ((aO W o).drop j) j)), s) := by
  rw [aX_W_placeFrom]
  unfold bX_W_placeFrom_0
  exact sX_pf_loop d o i s hf hX ho hi ((aO W o).length - j) 19999 j (by omega) (by have := aWf_len hf ho; omega)
theorem sM_found_loop {W : aW} (d o i : Nat) (t : zS) (hf : aWf W) (hM : aM (mFl t) W) (ho : o < aN W) (hi : i < 16) : ∀ (f n j : Nat), j + f = (aO W o).length → f < n → zexec skM (zcall zMs skM (d + 1)) zT_M_found 1 n 2 [some (.inr (.inr 0)), some (.inl (nI o)), some (.inl (nI i)), none, some (.inl (nI j))] [] t = some (some (.inl (aFst (fun x => aHas W x i) ((aO W o).drop j) j)), t) := by
  have h16 := aWf_lt hf ho
  have hlen := aWf_len hf ho
  intro f
  induction f with
  | zero =>
    intro n j hj hn
    obtain ⟨n, rfl⟩ : ∃ n', n = n' + 1 := ⟨n - 1, by omega⟩
    rw [hM_M_found_2]
    unfold bM_M_found_2
    rw [zin_nI h16 (by omega), nI_clamp (by omega), aM_osz hf hM ho, if_pos (nI_le (by omega) (by omega)), List.drop_eq_nil_of_le (by omega)]
    rfl
  | succ f ih =>
    intro n j hj hn
    obtain ⟨n, rfl⟩ : ∃ n', n = n' + 1 := ⟨n - 1, by omega⟩
    have hjl : j < (aO W o).length := by omega
    have hg : (aO W o)[j]? = some (aO W o)[j] := List.getElem?_eq_getElem hjl
    have hm := aWf_mem hf ho (List.getElem_mem hjl)
    have hm16 := aWf_lt hf hm
    rw [hM_M_found_2]
    unfold bM_M_found_2
    rw [zin_nI h16 (by omega), nI_clamp (by omega), aM_osz hf hM ho, if_neg (nI_ge hjl (by omega)), nlit16', zin_nI (by omega) (by omega), nI_clamp (by omega), aM_ord hf hM ho hg, zin_nI hm16 (by omega), nI_clamp (by omega), aM_has hf hM hm, sM_isIn d _ i hi, zcI_some, List.drop_eq_getElem_cons hjl]
    unfold aFst
    by_cases he : aHas W (aO W o)[j] i = true
    · rw [zBp_t he, if_neg (by decide), if_pos he]
    · rw [zBp_f he, if_pos rfl, if_neg he, nI_1]
      exact ih n (j + 1) (by omega) (by omega)
theorem sM_found {W : aW} (d o i j : Nat) (t : zS) (hf : aWf W) (hM : aM (mFl t) W) (ho : o < aN W) (hi : i < 16) (hj : j ≤ (aO W o).length) : zcall zMs skM (d + 2) 168 [.inr (.inr 0), .inl (nI o), .inl (nI i), .inl (nI j)] t = some (some (.inl (aFst (fun x => aHas W x i) ((aO W o).drop j) j)), t) := by
  rw [aM_M_found]
  unfold bM_M_found_0
  exact sM_found_loop d o i t hf hM ho hi ((aO W o).length - j) 19999 j (by omega) (by have := aWf_len hf ho; omega)
/-- the first place: none, or one -/
theorem aFst_cases (q : Nat → Bool) : ∀ (l : List Nat) (j : Nat), (aFst q l j = -1 ∧ ∀ x ∈ l, q x = false) ∨ ∃ i x, l[i]? = some x ∧ q x = true ∧ aFst q l j = nI (j + i) ∧ ∀ i', i' < i → ∀ y, l[i']? = some y → q y = false
  | [], j => Or.inl ⟨rfl, fun x h => by simp at h⟩
  | x :: xs, j => by
    unfold aFst
    by_cases hq : q x = true
    · rw [if_pos hq]
      exact Or.inr ⟨0, x, rfl, hq, rfl, fun i' h => absurd h (Nat.not_lt_zero i')⟩
    · rw [if_neg hq]
      have hq' : q x = false := by simpa using hq
      rcases aFst_cases q xs (j + 1) with ⟨h1, h2⟩ | ⟨i, y, h1, h2, h3, h4⟩
      · exact Or.inl ⟨h1, fun z hz => by
          rcases List.mem_cons.mp hz with rfl | hz
          · exact hq'
          · exact h2 z hz⟩
      · refine Or.inr ⟨i + 1, y, by simpa using h1, h2, by rw [h3]; congr 1; omega, fun i' hi' z hz => ?_⟩
        cases i' with
        | zero =>
          simp only [List.getElem?_cons_zero, Option.some.injEq] at hz
          rw [← hz]
          exact hq'
        | succ i' =>
          simp only [List.getElem?_cons_succ] at hz
          exact h4 i' (by omega) z hz
theorem nI_neg1 {k : Nat} (h : k < 2 ^ 31) : ¬ nI k = -1 := fun e => by
  have h1 := congrArg Int32.toInt e
  rw [nI_toInt h, show (-1 : Int32).toInt = -1 by decide] at h1
  omega
