/-! own slots, found slots, family -/
theorem sX_own_loop {W : aW} (d o : Nat) (s : zS) (hf : aWf W) (hX : aX 2 s W) (ho : o < aN W) : ∀ (f n i : Nat), i + f = 16 → f < n → zexec skX (zcall zMs skX (d + 1)) zT_W_ownSlots 1 n 4 [some (.inr (.inr 2)), some (.inl (nI o)), some (.inl (aB (aHas W o) i)), some (.inl (nI i))] [] s = some (some (.inl (aB (aHas W o) 16)), s) := by
  intro f
  induction f with
  | zero =>
    intro n i hi hn
    obtain ⟨n, rfl⟩ : ∃ n', n = n' + 1 := ⟨n - 1, by omega⟩
    obtain rfl : i = 16 := by omega
    rw [hX_W_ownSlots_4]
    unfold bX_W_ownSlots_4
    rw [if_pos (by decide)]
  | succ f ih =>
    intro n i hi hn
    obtain ⟨n, rfl⟩ : ∃ n', n = n' + 1 := ⟨n - 1, by omega⟩
    have nx := ih n (i + 1) (by omega) (by omega)
    rw [hX_W_ownSlots_4]
    unfold bX_W_ownSlots_4
    rw [if_neg (le16 (by omega)), sX_hasOwn d o i s hf hX ho (by omega), zcI_some]
    by_cases hh : aHas W o i = true
    · rw [zBp_t hh, if_neg o1, nI_1]
      rw [show aB (aHas W o) (i + 1) = aB (aHas W o) i ||| ((1 : Int32) <<< (nI i &&& 31)) by rw [aB, if_pos hh]] at nx
      exact nx
    · rw [zBp_f hh, if_pos rfl, nI_1]
      rw [show aB (aHas W o) (i + 1) = aB (aHas W o) i by rw [aB, if_neg hh]] at nx
      exact nx
theorem aB_0 (p : Nat → Bool) : aB p 0 = 0 := rfl
theorem sX_ownSlots {W : aW} (d o : Nat) (s : zS) (hf : aWf W) (hX : aX 2 s W) (ho : o < aN W) : zcall zMs skX (d + 2) 74 [.inr (.inr 2), .inl (nI o)] s = some (some (.inl (aB (aHas W o) 16)), s) := by
  have := sX_own_loop d o s hf hX ho 16 19999 0 (by omega) (by omega)
  rw [nI_0, aB_0] at this
  rw [aX_W_ownSlots]
  unfold bX_W_ownSlots_0
  exact this
def aAll (W : aW) (l : List Nat) (a : Int32) : Int32 := l.foldl (fun a x => a ||| aB (aHas W x) 16) a
theorem sX_all_loop {W : aW} (d o : Nat) (s : zS) (hf : aWf W) (hX : aX 2 s W) (ho : o < aN W) : ∀ (f n j : Nat) (a : Int32), j + f = (aO W o).length → f < n → zexec skX (zcall zMs skX (d + 2)) zT_W_foundSlots 1 n 4 [some (.inr (.inr 2)), some (.inl (nI o)), some (.inl a), some (.inl (nI j))] [] s = some (some (.inl (aAll W ((aO W o).drop j) a)), s) := by
  have h16 := aWf_lt hf ho
  have hlen := aWf_len hf ho
  intro f
  induction f with
  | zero =>
    intro n j a hj hn
    obtain ⟨n, rfl⟩ : ∃ n', n = n' + 1 := ⟨n - 1, by omega⟩
    rw [hX_W_foundSlots_4]
    unfold bX_W_foundSlots_4
    rw [zin_nI h16 (by omega), nI_clamp (by omega), aX_osz hX ho, if_pos (nI_le (by omega) (by omega)), List.drop_eq_nil_of_le (by omega)]
    rfl
  | succ f ih =>
    intro n j a hj hn
    obtain ⟨n, rfl⟩ : ∃ n', n = n' + 1 := ⟨n - 1, by omega⟩
    have hjl : j < (aO W o).length := by omega
    have hg : (aO W o)[j]? = some (aO W o)[j] := List.getElem?_eq_getElem hjl
    have hm := aWf_mem hf ho (List.getElem_mem hjl)
    rw [hX_W_foundSlots_4]
    unfold bX_W_foundSlots_4
    rw [zin_nI h16 (by omega), nI_clamp (by omega), aX_osz hX ho, if_neg (nI_ge hjl (by omega)), sX_orderAt (d + 1) o j s h16 (by omega), zcI_some, aX_ord hX ho hg, sX_ownSlots d _ s hf hX hm, zcI_some, List.drop_eq_getElem_cons hjl, nI_1]
    exact ih n (j + 1) _ (by omega) (by omega)
theorem sX_foundSlots {W : aW} (d o : Nat) (s : zS) (hf : aWf W) (hX : aX 2 s W) (ho : o < aN W) : zcall zMs skX (d + 3) 75 [.inr (.inr 2), .inl (nI o)] s = some (some (.inl (aAll W (aO W o) 0)), s) := by
  have := sX_all_loop d o s hf hX ho (aO W o).length 19999 0 0 (by omega) (by have := aWf_len hf ho; omega)
  rw [nI_0, List.drop_zero] at this
  rw [aX_W_foundSlots]
  unfold bX_W_foundSlots_0
  exact this
theorem sM_all_loop {W : aW} (C : Nat → List zV → zS → zR) (o : Nat) (t : zS) (hf : aWf W) (hM : aM (mFl t) W) (ho : o < aN W) : ∀ (f n j : Nat) (a : Int32), j + f = (aO W o).length → f < n → zexec skM C zT_M_allFound 1 n 4 [some (.inr (.inr 0)), some (.inl (nI o)), some (.inl a), some (.inl (nI j))] [] t = some (some (.inl (aAll W ((aO W o).drop j) a)), t) := by
  have h16 := aWf_lt hf ho
  have hlen := aWf_len hf ho
  intro f
  induction f with
  | zero =>
    intro n j a hj hn
    obtain ⟨n, rfl⟩ : ∃ n', n = n' + 1 := ⟨n - 1, by omega⟩
    rw [hM_M_allFound_4]
    unfold bM_M_allFound_4
    rw [zin_nI h16 (by omega), nI_clamp (by omega), aM_osz hf hM ho, if_pos (nI_le (by omega) (by omega)), List.drop_eq_nil_of_le (by omega)]
    rfl
  | succ f ih =>
    intro n j a hj hn
    obtain ⟨n, rfl⟩ : ∃ n', n = n' + 1 := ⟨n - 1, by omega⟩
    have hjl : j < (aO W o).length := by omega
    have hg : (aO W o)[j]? = some (aO W o)[j] := List.getElem?_eq_getElem hjl
    have hm := aWf_mem hf ho (List.getElem_mem hjl)
    have hm16 := aWf_lt hf hm
    rw [hM_M_allFound_4]
    unfold bM_M_allFound_4
    rw [zin_nI h16 (by omega), nI_clamp (by omega), aM_osz hf hM ho, if_neg (nI_ge hjl (by omega)), nlit16', zin_nI (show 16 * o + j < 256 by omega) (by omega), nI_clamp (show 16 * o + j < 2 ^ 31 by omega), aM_ord hf hM ho hg, zin_nI hm16 (by omega), nI_clamp (by omega), aM_has hf hM hm, List.drop_eq_getElem_cons hjl, nI_1]
    exact ih n (j + 1) _ (by omega) (by omega)
theorem sM_allFound {W : aW} (d o : Nat) (t : zS) (hf : aWf W) (hM : aM (mFl t) W) (ho : o < aN W) : zcall zMs skM (d + 1) 170 [.inr (.inr 0), .inl (nI o)] t = some (some (.inl (aAll W (aO W o) 0)), t) := by
  have := sM_all_loop (zcall zMs skM d) o t hf hM ho (aO W o).length 19999 0 0 (by omega) (by have := aWf_len hf ho; omega)
  rw [nI_0, List.drop_zero] at this
  rw [aM_M_allFound]
  unfold bM_M_allFound_0
  exact this
def aFam (W : aW) (p : Nat) (b : Nat) : Bool := !decide (aFst (fun x => decide (x = p)) (aO W b) 0 = -1)
theorem sX_fam_loop {W : aW} (d p : Nat) (s : zS) (hf : aWf W) (hX : aX 2 s W) (hp : p < 16) : ∀ (f n i : Nat), i + f = aN W → f < n → zexec skX (zcall zMs skX (d + 2)) zT_W_family 1 n 4 [some (.inr (.inr 2)), some (.inl (nI p)), some (.inl (aB (aFam W p) i)), some (.inl (nI i))] [] s = some (some (.inl (aB (aFam W p) (aN W))), s) := by
  have hn16 := hf.1
  intro f
  induction f with
  | zero =>
    intro n i hi hn
    obtain ⟨n, rfl⟩ : ∃ n', n = n' + 1 := ⟨n - 1, by omega⟩
    obtain rfl : i = aN W := by omega
    rw [hX_W_family_4]
    unfold bX_W_family_4
    rw [hX.1, if_pos (nI_le (by omega) (by omega))]
  | succ f ih =>
    intro n i hi hn
    obtain ⟨n, rfl⟩ : ∃ n', n = n' + 1 := ⟨n - 1, by omega⟩
    have nx := ih n (i + 1) (by omega) (by omega)
    rw [hX_W_family_4]
    unfold bX_W_family_4
    rw [hX.1, if_neg (nI_ge (by omega) (by omega)), sX_distanceTo d i p s hf hX (by omega) hp, zcI_some]
    by_cases hh : aFst (fun x => decide (x = p)) (aO W i) 0 = -1
    · have hz : ¬ aFam W p i = true := by
        unfold aFam
        rw [hh]
        decide
      rw [if_pos hh, nI_1]
      rw [show aB (aFam W p) (i + 1) = aB (aFam W p) i by rw [aB, if_neg hz]] at nx
      exact nx
    · have hz : aFam W p i = true := by
        unfold aFam
        rw [decide_eq_false hh]
        rfl
      rw [if_neg hh, nI_1]
      rw [show aB (aFam W p) (i + 1) = aB (aFam W p) i ||| ((1 : Int32) <<< (nI i &&& 31)) by rw [aB, if_pos hz]] at nx
      exact nx
theorem sX_family {W : aW} (d p : Nat) (s : zS) (hf : aWf W) (hX : aX 2 s W) (hp : p < 16) : zcall zMs skX (d + 3) 77 [.inr (.inr 2), .inl (nI p)] s = some (some (.inl (aB (aFam W p) (aN W))), s) := by
  have := sX_fam_loop d p s hf hX hp (aN W) 19999 0 (by omega) (by have := hf.1; omega)
  rw [nI_0, aB_0] at this
  rw [aX_W_family]
  unfold bX_W_family_0
  exact this
theorem sM_fam_loop {W : aW} (d p : Nat) (t : zS) (hf : aWf W) (hM : aM (mFl t) W) (hp : p < 16) : ∀ (f n i : Nat), i + f = aN W → f < n → zexec skM (zcall zMs skM (d + 1)) zT_M_family 1 n 4 [some (.inr (.inr 0)), some (.inl (nI p)), some (.inl (aB (aFam W p) i)), some (.inl (nI i))] [] t = some (some (.inl (aB (aFam W p) (aN W))), t) := by
  have hn16 := hf.1
  intro f
  induction f with
  | zero =>
    intro n i hi hn
    obtain ⟨n, rfl⟩ : ∃ n', n = n' + 1 := ⟨n - 1, by omega⟩
    obtain rfl : i = aN W := by omega
    rw [hM_M_family_4]
    unfold bM_M_family_4
    rw [aM_n hM, if_pos (nI_le (by omega) (by omega))]
  | succ f ih =>
    intro n i hi hn
    obtain ⟨n, rfl⟩ : ∃ n', n = n' + 1 := ⟨n - 1, by omega⟩
    have nx := ih n (i + 1) (by omega) (by omega)
    rw [hM_M_family_4]
    unfold bM_M_family_4
    rw [aM_n hM, if_neg (nI_ge (by omega) (by omega)), sM_place d i p t hf hM (by omega) hp, zcI_some]
    by_cases hh : aFst (fun x => decide (x = p)) (aO W i) 0 = -1
    · have hz : ¬ aFam W p i = true := by
        unfold aFam
        rw [hh]
        decide
      rw [if_pos hh, nI_1]
      rw [show aB (aFam W p) (i + 1) = aB (aFam W p) i by rw [aB, if_neg hz]] at nx
      exact nx
    · have hz : aFam W p i = true := by
        unfold aFam
        rw [decide_eq_false hh]
        rfl
      rw [if_neg hh, nI_1]
      rw [show aB (aFam W p) (i + 1) = aB (aFam W p) i ||| ((1 : Int32) <<< (nI i &&& 31)) by rw [aB, if_pos hz]] at nx
      exact nx
theorem sM_family {W : aW} (d p : Nat) (t : zS) (hf : aWf W) (hM : aM (mFl t) W) (hp : p < 16) : zcall zMs skM (d + 2) 169 [.inr (.inr 0), .inl (nI p)] t = some (some (.inl (aB (aFam W p) (aN W))), t) := by
  have := sM_fam_loop d p t hf hM hp (aN W) 19999 0 (by omega) (by have := hf.1; omega)
  rw [nI_0, aB_0] at this
  rw [aM_M_family]
  unfold bM_M_family_0
  exact this
