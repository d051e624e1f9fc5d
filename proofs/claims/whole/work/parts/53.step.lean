/-! THE STEPS of the class's runner -/
theorem fm_and (k : Int32) : (nI (eMod k)).toInt = k.toInt % 16 := by
  have h := eMod_lt k
  rw [nI_toInt (by omega)]
  unfold eMod
  have e : k.toInt = if 2 * k.toBitVec.toNat < 2 ^ 32 then (k.toBitVec.toNat : Int) else (k.toBitVec.toNat : Int) - ((2 ^ 32 : Nat) : Int) := BitVec.toInt_eq_toNat_cond k.toBitVec
  rw [e]
  split <;> omega
theorem fm_mod (k : Int32) : (k - k / 16 * 16).toInt = k.toInt.tmod 16 := by
  rw [Jvm.irem_eq_mod, Int32.toInt_mod]
  rfl
theorem fm_xor (k : Int32) : ((0 : Int32) ≤ k ^^^ 16) ↔ 0 ≤ k.toInt := by
  rw [zle, t0]
  have h1 : (k ^^^ 16).toBitVec.msb = k.toBitVec.msb := by
    rw [Int32.toBitVec_xor, BitVec.msb_xor, show (16 : Int32).toBitVec.msb = false by decide, Bool.xor_false]
  rw [BitVec.msb_eq_toInt, BitVec.msb_eq_toInt] at h1
  have h2 : ((k ^^^ 16).toInt < 0) ↔ (k.toInt < 0) := by
    have := congrArg (fun b => b = true) h1
    simp only [decide_eq_true_eq] at this
    exact Iff.of_eq this
  omega
theorem sX_floorMod (d : Nat) (k : Int32) (s : zS) : zcall zMs skX (d + 1) 216 [.inl k, .inl 16] s = some (some (.inl (nI (eMod k))), s) := by
  have hm := fm_and k
  have hk := fm_mod k
  have hz : zne (16 : Int32) = fun r => r := by
    funext r
    unfold zne
    rw [if_neg (by decide)]
  rw [aX_J_floorMod]
  unfold bX_J_floorMod_0
  rw [hz]
  show (if (0 : Int32) ≤ k ^^^ 16 then (some (some (.inl (k - k / 16 * 16)), s) : zR) else if k - k / 16 * 16 = 0 then some (some (.inl (k - k / 16 * 16)), s) else some (some (.inl (k - k / 16 * 16 + 16)), s)) = _
  by_cases h : 0 ≤ k.toInt
  · rw [if_pos ((fm_xor k).mpr h)]
    have e : k - k / 16 * 16 = nI (eMod k) := by
      apply Int32.toInt_inj.mp
      rw [hk, hm, Int.tmod_eq_emod_of_nonneg h]
    rw [e]
  · rw [if_neg (fun c => h ((fm_xor k).mp c))]
    have hr : k.toInt.tmod 16 = -((-k.toInt) % 16) := by
      have := Int.neg_tmod (-k.toInt) 16
      rw [Int.neg_neg] at this
      rw [this, Int.tmod_eq_emod_of_nonneg (by omega)]
    by_cases h0 : k - k / 16 * 16 = 0
    · rw [if_pos h0]
      have e : k - k / 16 * 16 = nI (eMod k) := by
        apply Int32.toInt_inj.mp
        have h1 := hk
        rw [h0, t0] at h1
        rw [h0, t0, hm]
        omega
      rw [e]
    · rw [if_neg h0]
      have e : k - k / 16 * 16 + 16 = nI (eMod k) := by
        apply Int32.toInt_inj.mp
        have h1 : (k - k / 16 * 16).toInt ≠ 0 := fun c => h0 (Int32.toInt_inj.mp (c.trans t0.symm))
        rw [hk, hr] at h1
        rw [Int32.toInt_add, hk, hr, hm, show (16 : Int32).toInt = 16 by decide, Int.bmod_eq_of_le (by omega) (by omega)]
        omega
      rw [e]
theorem sU_slotNone {W : aW} {d o sl ix : Nat} {s : zS} (hf : aWf W) (hX : aX 2 s W) (ho : o < aN W) (hs : sl < 16) (hix : ix ≤ (aO W o).length) (h7 : zg s 1 7 = nI o) (h9 : zg s 1 9 = nI sl) (h10 : zg s 1 10 = nI ix) (hr : aFst (fun p => aHas W p sl) ((aO W o).drop ix) ix = -1) : zcall zMs skX (d + 3) 37 [.inr (.inr 1)] s = some (none, zs s 1 6 3) := by
  rw [aX_U_comeToSlot]
  unfold bX_U_comeToSlot_0
  rw [h7, h9, h10, sX_placeFrom d o sl ix s hf hX ho hs hix, hr, zcI_some, if_neg (show ¬ ¬ (-1 : Int32) = -1 by decide)]
theorem sU_slotVal {W : aW} {d o sl ix j p : Nat} {s : zS} (hf : aWf W) (hX : aX 2 s W) (ho : o < aN W) (hs : sl < 16) (hix : ix ≤ (aO W o).length) (h7 : zg s 1 7 = nI o) (h9 : zg s 1 9 = nI sl) (h10 : zg s 1 10 = nI ix) (hr : aFst (fun p => aHas W p sl) ((aO W o).drop ix) ix = nI j) (hj : (aO W o)[j]? = some p) (ht : (aS W p sl).1 = 1) : zcall zMs skX (d + 3) 37 [.inr (.inr 1)] s = some (none, uGive s (aS W p sl).2.2) := by
  have h16 := aWf_lt hf ho
  have hlen := aWf_len hf ho
  have hjl := (List.getElem?_eq_some_iff.mp hj).1
  have hp := aWf_mem hf ho (List.mem_of_getElem? hj)
  have hp16 := aWf_lt hf hp
  have hv := ((hX.2.2.2.2.1 p sl hp hs).2 (by omega)).2
  have hv' : zg s 10 (p * 16 + sl) = (aS W p sl).2.2 := hv
  rw [aX_U_comeToSlot]
  unfold bX_U_comeToSlot_0
  rw [h7, h9, h10, sX_placeFrom d o sl ix s hf hX ho hs hix, hr, zcI_some, if_pos (nI_neg1 (by omega)), h7, sX_orderAt _ o j s h16 (by omega), zcI_some, aX_ord hX ho hj, h9, nlit16, zin_nI (show p * 16 + sl < 256 by omega) (by decide), nI_clamp (show p * 16 + sl < 2 ^ 31 by omega), aX_slot hX hp hs, ht, nIe1, if_neg (show ¬ ¬ (1 : Int32) = 1 by decide), zin_nI (show p * 16 + sl < 256 by omega) (by decide), hv', sU_give, zcV_some]
theorem sU_slotMet {W : aW} {d o sl ix j p : Nat} {s s1 : zS} (hf : aWf W) (hX : aX 2 s W) (ho : o < aN W) (hs : sl < 16) (hix : ix ≤ (aO W o).length) (h7 : zg s 1 7 = nI o) (h9 : zg s 1 9 = nI sl) (h10 : zg s 1 10 = nI ix) (hr : aFst (fun p => aHas W p sl) ((aO W o).drop ix) ix = nI j) (hj : (aO W o)[j]? = some p) (ht : (aS W p sl).1 = 2) (h1 : zcall zMs skX (d + 2) 40 [.inr (.inr 1), .inl (aS W p sl).2.1, .inl (aS W p sl).2.2] (zs s 1 10 (nI (j + 1))) = some (none, s1)) : zcall zMs skX (d + 3) 37 [.inr (.inr 1)] s = some (none, s1) := by
  have h16 := aWf_lt hf ho
  have hlen := aWf_len hf ho
  have hjl := (List.getElem?_eq_some_iff.mp hj).1
  have hp := aWf_mem hf ho (List.mem_of_getElem? hj)
  have hp16 := aWf_lt hf hp
  obtain ⟨hv, hv2⟩ := (hX.2.2.2.2.1 p sl hp hs).2 (by omega)
  have hv' : zg s 9 (p * 16 + sl) = (aS W p sl).2.1 := hv
  have hv2' : zg s 10 (p * 16 + sl) = (aS W p sl).2.2 := hv2
  rw [aX_U_comeToSlot]
  unfold bX_U_comeToSlot_0
  rw [h7, h9, h10, sX_placeFrom d o sl ix s hf hX ho hs hix, hr, zcI_some, if_pos (nI_neg1 (by omega)), h7, sX_orderAt _ o j s h16 (by omega), zcI_some, aX_ord hX ho hj, h9, nlit16, zin_nI (show p * 16 + sl < 256 by omega) (by decide), nI_clamp (show p * 16 + sl < 2 ^ 31 by omega), aX_slot hX hp hs, ht, nIe2, if_pos (show ¬ (2 : Int32) = 1 by decide), zin_nI (show p * 16 + sl < 256 by omega) (by decide), zin_nI (show p * 16 + sl < 256 by omega) (by decide), hv', hv2', nI_1, h1, zcV_some]
theorem nmul32 (k : Nat) : nI k * (32 : Int32) = nI (k * 32) := by
  rw [show (32 : Int32) = nI 32 from rfl, pk_mul]
theorem sX_wayAt {W : aW} {s0 s : zS} {A : Nat → List Nat} {c ix w : Nat} (d : Nat) (hA : cA W s0 A) (h14 : ∀ i, zg s 14 i = zg s0 14 i) (hc : c < 4) (hw : (A c)[ix]? = some w) : zcall zMs skX (d + 1) 3 [.inr (.inr 12), .inl (nI c), .inl (nI ix)] s = some (some (.inl (nI w)), s) := by
  obtain ⟨-, h2, h3⟩ := hA.1 c hc
  have hl := (List.getElem?_eq_some_iff.mp hw).1
  rw [aX_A_wayAt]
  unfold bX_A_wayAt_0
  rw [nmul32, nI_add, zin_nI (show c * 32 + ix < 128 by omega) (by decide), nI_clamp (show c * 32 + ix < 2 ^ 31 by omega), h14, (h3 ix w hw).1]
theorem nI_i3 {c : Nat} (hc : c < 1000) (k : Nat) (hk : k < 1000) : (nI c = nI k) ↔ c = k := nI_eq (by omega) (by omega)
theorem sU_wayFail {d c ix n : Nat} {s : zS} (h8 : zg s 1 8 = nI c) (h10 : zg s 1 10 = nI ix) (hc : c < 4) (hc3 : c ≠ 3 ∨ zg s 13 0 = 0) (hA : zg s 13 c = nI n) (hn : n ≤ 32) (hix : n ≤ ix) (hix2 : ix ≤ 32) : zcall zMs skX (d + 1) 38 [.inr (.inr 1)] s = some (none, zs s 1 6 3) := by
  rw [aX_U_comeToWay]
  unfold bX_U_comeToWay_0
  rw [h8, if_neg (show ¬ nI c = (5 : Int32) from fun h => by have := (nI_i3 (by omega) 5 (by omega)).mp h; omega), zin_nI hc (by decide), nI_clamp (by omega), hA, h10, if_pos (nI_le hix (by omega))]
  by_cases h3 : c = 3
  · subst h3
    rw [if_neg (show ¬ ¬ nI 3 = (3 : Int32) by decide), (hc3.resolve_left (fun h => h rfl)), if_pos (show (0 : Int32) ≤ 0 by decide)]
  · rw [if_pos (show ¬ nI c = (3 : Int32) from fun h => h3 ((nI_i3 (by omega) 3 (by omega)).mp h))]
theorem sU_way5 {d : Nat} {s : zS} (h8 : zg s 1 8 = 5) : zcall zMs skX (d + 1) 38 [.inr (.inr 1)] s = some (none, zs s 1 6 3) := by
  rw [aX_U_comeToWay]
  unfold bX_U_comeToWay_0
  rw [h8, if_pos (show (5 : Int32) = 5 by decide), if_pos (show ¬ (5 : Int32) = 3 by decide)]
theorem sU_wayCore {d ix n n0 D : Nat} {s s1 : zS} {x : Int32} (h8 : zg s 1 8 = nI 3) (h10 : zg s 1 10 = nI ix) (h5 : zg s 1 5 = x) (hA : zg s 13 3 = nI n) (hn : n ≤ 32) (hix : n ≤ ix) (hix2 : ix ≤ 32) (hA0 : zg s 13 0 = nI n0) (hn0 : 0 < n0) (hn02 : n0 ≤ 32) (h14 : zg s 1 14 = nI D) (hD : D ≤ 200) (h1 : zcall zMs skX (d + 1) 45 [.inr (.inr 1)] (uLeave s D (3, x, 1, nI 0)) = some (none, s1)) : zcall zMs skX (d + 2) 38 [.inr (.inr 1)] s = some (none, s1) := by
  rw [aX_U_comeToWay]
  unfold bX_U_comeToWay_0
  rw [h8, if_neg (show ¬ nI 3 = (5 : Int32) by decide), zin_nI (show 3 < 4 by decide) (by decide), nI_clamp (show 3 < 2 ^ 31 by decide), hA, h10, if_pos (nI_le hix (by omega)), if_neg (show ¬ ¬ nI 3 = (3 : Int32) by decide), hA0, if_neg (nI_nle hn0 (by omega)), h5, show (0 : Int32) = nI 0 from nI_0.symm, sU_leave d D 3 x 1 (nI 0) s h14 hD, zcV_some, h1, zcV_some]
theorem tr_app (L : List Nat) (w k0 i : Nat) (z : Int32) : (if k0 ≤ i ∧ i < k0 + (L ++ [w]).length then nI ((L ++ [w]).getD (i - k0) 0) else z) = if i = k0 + L.length then nI w else (if k0 ≤ i ∧ i < k0 + L.length then nI (L.getD (i - k0) 0) else z) := by
  have hl : (L ++ [w]).length = L.length + 1 := by simp
  by_cases h : i = k0 + L.length
  · subst h
    rw [if_pos rfl, if_pos ⟨by omega, by omega⟩, Nat.add_sub_cancel_left, List.getD_eq_getElem?_getD, List.getElem?_append_right (Nat.le_refl _), Nat.sub_self]
    rfl
  · rw [if_neg h]
    by_cases h2 : k0 ≤ i ∧ i < k0 + L.length
    · rw [if_pos ⟨h2.1, by omega⟩, if_pos h2, List.getD_eq_getElem?_getD, List.getD_eq_getElem?_getD, List.getElem?_append_left (by omega)]
    · rw [if_neg h2, if_neg (by omega)]
def uTr (s : zS) (k w : Nat) : zS := if k < 30 then zs s 17 k (nI w) else s
theorem uTr_o (s : zS) (k w p i : Nat) (h : p ≠ 17) : zg (uTr s k w) p i = zg s p i := by
  unfold uTr
  split
  · exact zgz_ne h
  · rfl
theorem uTr_l (s : zS) (k w p i : Nat) : zgl (uTr s k w) p i = zgl s p i := by
  unfold uTr
  split <;> rfl
theorem uTr_17 (s : zS) (k w i : Nat) (hi : i < 30) : zg (uTr s k w) 17 i = if i = k then nI w else zg s 17 i := by
  unfold uTr
  by_cases h : k < 30
  · rw [if_pos h, zg_zs, if_pos rfl]
  · rw [if_neg h, if_neg (by omega)]
/-- the chain behind a way that runs, and where it goes on -/
def eC (c : Nat) : Nat := if c = 0 ∨ c = 3 then c else 5
def eI (c ix : Nat) : Nat := if c = 0 ∨ c = 3 then ix + 1 else ix
def uChn (s : zS) (c ix : Nat) : zS := if c = 0 ∨ c = 3 then zs s 1 10 (nI (ix + 1)) else zs s 1 8 5
theorem uChn_o (s : zS) (c ix p i : Nat) (h : p ≠ 1) : zg (uChn s c ix) p i = zg s p i := by
  unfold uChn
  split <;> exact zgz_ne h
theorem uChn_l (s : zS) (c ix p i : Nat) : zgl (uChn s c ix) p i = zgl s p i := by
  unfold uChn
  split <;> rfl
theorem uChn_1 (s : zS) (c ix i : Nat) (h8 : i ≠ 8) (h10 : i ≠ 10) : zg (uChn s c ix) 1 i = zg s 1 i := by
  unfold uChn
  split
  · exact zgz_nj h10
  · exact zgz_nj h8
theorem uChn_8 (s : zS) (c ix : Nat) (h : zg s 1 8 = nI c) : zg (uChn s c ix) 1 8 = nI (eC c) := by
  unfold uChn eC
  split
  · rw [zgz_nj (by decide), h]
  · exact zgz_eq
theorem uChn_10 (s : zS) (c ix : Nat) (h : zg s 1 10 = nI ix) : zg (uChn s c ix) 1 10 = nI (eI c ix) := by
  unfold uChn eI
  split
  · exact zgz_eq
  · rw [zgz_nj (by decide), h]
/-- a way starts: none may run any more -/
theorem sU_wayStartEnd {W : aW} {d c ix w r : Nat} {s : zS} (hf : aWf W) (hX : aX 2 s W) (hw : w < aWn W) (hc : c < 4) (h8 : zg s 1 8 = nI c) (h10 : zg s 1 10 = nI ix) (h4 : zg s 1 4 = nI r) (hr : 200 ≤ r) (hr2 : r ≤ 1000) : zcall zMs skX (d + 2) 39 [.inr (.inr 1), .inl (nI w)] s = some (none, zs (uChn s c ix) 1 6 4) := by
  have hX' : aX 2 (uChn s c ix) W := aX_fr (fun p h2 _ i => uChn_o s c ix p i (by omega)) hX
  have e4 := sX_wayPart d w 4 (uChn s c ix) hf hX' hw (by decide)
  have e5 := sX_wayPart d w 5 (uChn s c ix) hf hX' hw (by decide)
  have h4' : zg (uChn s c ix) 1 4 = nI r := (uChn_1 s c ix 4 (by decide) (by decide)).trans h4
  have ee := sU_startEnd d r (aWy W w 4) (aWy W w 5) (uChn s c ix) h4' hr hr2
  have e4' : nI 4 = (4 : Int32) := by decide
  have e5' : nI 5 = (5 : Int32) := by decide
  rw [e4'] at e4
  rw [e5'] at e5
  rw [aX_U_startWay]
  unfold bX_U_startWay_0
  rw [h4, if_pos (show (200 : Int32) ≤ nI r from nI_le (show 200 ≤ r from hr) (by omega)), h8]
  unfold uChn at e4 e5 ee ⊢
  by_cases h0 : c = 0
  · subst h0
    rw [if_pos (Or.inl rfl)] at e4 e5 ee ⊢
    rw [if_pos nI_0, h10, nI_1]
    simp only [e4, zcI_some, e5, ee, zcV_some]
  · rw [if_neg (show ¬ nI c = 0 from nI_ne0 (by omega) (by omega))]
    by_cases h3 : c = 3
    · subst h3
      rw [if_pos (Or.inr rfl)] at e4 e5 ee ⊢
      rw [if_neg (show ¬ ¬ nI 3 = (3 : Int32) by decide), h10, nI_1]
      simp only [e4, zcI_some, e5, ee, zcV_some]
    · rw [if_neg (show ¬ (c = 0 ∨ c = 3) by omega)] at e4 e5 ee ⊢
      rw [if_pos (show ¬ nI c = (3 : Int32) from fun h => h3 ((nI_i3 (by omega) 3 (by omega)).mp h))]
      simp only [e4, zcI_some, e5, ee, zcV_some]
theorem sU_wayStart {W : aW} {d c ix w r k : Nat} {s : zS} (hf : aWf W) (hX : aX 2 s W) (hw : w < aWn W) (hc : c < 4) (h8 : zg s 1 8 = nI c) (h10 : zg s 1 10 = nI ix) (h4 : zg s 1 4 = nI r) (hr : r < 200) (h3 : zg s 1 3 = nI k) (hk : k ≤ 2000) : zcall zMs skX (d + 2) 39 [.inr (.inr 1), .inl (nI w)] s = some (none, uStart (uChn (zs (uTr s k w) 1 3 (nI (k + 1))) c ix) r (aWy W w 4) (aWy W w 5)) := by
  generalize hu : uChn (zs (uTr s k w) 1 3 (nI (k + 1))) c ix = u
  have hX' : aX 2 u W := by
    rw [← hu]
    exact aX_fr (fun p h2 h11 i => by rw [uChn_o _ c ix p i (by omega), zgz_ne (by omega), uTr_o _ _ _ _ _ (by omega)]) hX
  have e4 := sX_wayPart d w 4 u hf hX' hw (by decide)
  have e5 := sX_wayPart d w 5 u hf hX' hw (by decide)
  have h4' : zg u 1 4 = nI r := by
    rw [← hu, uChn_1 _ c ix 4 (by decide) (by decide), zgz_nj (by decide), uTr_o _ _ _ _ _ (by decide), h4]
  have ee := sU_start d r (aWy W w 4) (aWy W w 5) u h4' hr
  rw [show nI 4 = (4 : Int32) by decide] at e4
  rw [show nI 5 = (5 : Int32) by decide] at e5
  have key : ∀ (v : zS) (n : Nat), zg v 1 8 = nI c → zg v 1 10 = nI ix → zg v 1 3 = nI k → uChn (zs v 1 3 (nI (k + 1))) c ix = u → zexec skX (zcall zMs skX (d + 1)) zT_U_startWay 0 (n + 1) 14 [some (.inr (.inr 1)), some (.inl (nI w))] [] v = some (none, uStart u r (aWy W w 4) (aWy W w 5)) := by
    intro v n v8 v10 v3 vu
    rw [hX_U_startWay_14]
    unfold bX_U_startWay_14
    rw [v3, nI_1, v8]
    unfold uChn at vu
    by_cases h0 : c = 0
    · subst h0
      rw [if_pos (Or.inl rfl)] at vu
      rw [if_pos nI_0, v10, nI_1, vu]
      simp only [e4, zcI_some, e5, ee, zcV_some]
    · rw [if_neg (show ¬ nI c = 0 from nI_ne0 (by omega) (by omega))]
      by_cases h3 : c = 3
      · subst h3
        rw [if_pos (Or.inr rfl)] at vu
        rw [if_neg (show ¬ ¬ nI 3 = (3 : Int32) by decide), v10, nI_1, vu]
        simp only [e4, zcI_some, e5, ee, zcV_some]
      · rw [if_neg (show ¬ (c = 0 ∨ c = 3) by omega)] at vu
        rw [if_pos (show ¬ nI c = (3 : Int32) from fun h => h3 ((nI_i3 (by omega) 3 (by omega)).mp h)), vu]
        simp only [e4, zcI_some, e5, ee, zcV_some]
  rw [aX_U_startWay]
  unfold bX_U_startWay_0
  rw [h4, if_neg (show ¬ (200 : Int32) ≤ nI r from nI_ge (show r < 200 from hr) (by decide)), h3]
  by_cases hk30 : k < 30
  · rw [if_neg (show ¬ (30 : Int32) ≤ nI k from nI_ge (show k < 30 from hk30) (by decide)), zin_nI hk30 (by decide), nI_clamp (by omega)]
    have ht : uTr s k w = zs s 17 k (nI w) := if_pos hk30
    rw [ht] at hu
    exact key (zs s 17 k (nI w)) 19998 h8 h10 h3 hu
  · rw [if_pos (show (30 : Int32) ≤ nI k from nI_le (show 30 ≤ k by omega) (by omega))]
    have ht : uTr s k w = s := if_neg hk30
    rw [ht] at hu
    exact key s 19998 h8 h10 h3 hu
