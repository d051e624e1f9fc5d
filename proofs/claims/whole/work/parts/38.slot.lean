/-! SLOTS put and dropped -/
def aMz (t : zS) (W : aW) : Prop := zg t 0 0 = nI (aN W) ∧ zg t 0 10 = nI (aWn W) ∧ zg t 0 12 = aSd W ∧
  (∀ o, o < aN W → zg t 1 o = nI (aK W o) ∧ zg t 2 o = nI (aP W o).length ∧ (∀ i, i < 3 → zg t 3 (3 * o + i) = (match (aP W o)[i]? with
    | some p => nI p
    | none => -1)) ∧ zg t 4 o = nI (aO W o).length ∧ (∀ i p, (aO W o)[i]? = some p → zg t 5 (16 * o + i) = nI p)) ∧
  (∀ o, o < aN W → zg t 6 o = aB (fun i => decide ((aS W o i).1 ≠ 0)) 16 ∧ zg t 7 o = aB (fun i => decide ((aS W o i).1 = 2)) 16) ∧
  (∀ o i, o < aN W → i < 16 → (aS W o i).1 ≠ 0 → zg t 8 (16 * o + i) = (aS W o i).2.1 ∧ zg t 9 (16 * o + i) = (aS W o i).2.2) ∧
  (∀ w u, w < aWn W → u < 6 → zg t 10 (32 * u + w) = aWy W w u)
theorem aMz_of {t : zS} {W : aW} (hf : aWf W) (h : aM (mFl t) W) : aMz t W := by
  obtain ⟨m1, m2, m3, m4, m5, m6, m7⟩ := h
  have hn : ∀ o, o < aN W → o < 16 := fun o ho => aWf_lt hf ho
  refine ⟨m1, m2, m3, ?_, ?_, ?_, ?_⟩
  · intro o ho
    have h16 := hn o ho
    obtain ⟨q1, q2, q3, q4, q5⟩ := m4 o ho
    rw [mFl_kind t o h16] at q1
    rw [mFl_pars t o h16] at q2
    rw [mFl_ordd t o h16] at q4
    refine ⟨q1, q2, fun i hi => ?_, q4, fun i p hp => ?_⟩
    · have := q3 i hi
      rwa [mFl_par t _ (by omega)] at this
    · have hi : i < 16 := Nat.lt_of_lt_of_le (List.getElem?_eq_some_iff.mp hp).1 (aWf_len hf ho)
      have := q5 i p hp
      rwa [mFl_ord t _ (by omega)] at this
  · intro o ho
    have h16 := hn o ho
    obtain ⟨q1, q2⟩ := m5 o ho
    rw [mFl_has t o h16] at q1
    rw [mFl_met t o h16] at q2
    exact ⟨q1, q2⟩
  · intro o i ho hi hz
    have h16 := hn o ho
    obtain ⟨q1, q2⟩ := m6 o i ho hi hz
    rw [mFl_fun t _ (by omega)] at q1
    rw [mFl_num t _ (by omega)] at q2
    exact ⟨q1, q2⟩
  · intro w u hw hu
    have hw32 : w < 32 := Nat.lt_of_lt_of_le hw hf.2.1
    have := m7 w u hw hu
    rwa [mFl_way t _ (by omega)] at this
theorem aM_ofz {t : zS} {W : aW} (hf : aWf W) (h : aMz t W) : aM (mFl t) W := by
  obtain ⟨m1, m2, m3, m4, m5, m6, m7⟩ := h
  have hn : ∀ o, o < aN W → o < 16 := fun o ho => aWf_lt hf ho
  refine ⟨m1, m2, m3, ?_, ?_, ?_, ?_⟩
  · intro o ho
    have h16 := hn o ho
    obtain ⟨q1, q2, q3, q4, q5⟩ := m4 o ho
    rw [mFl_kind t o h16, mFl_pars t o h16, mFl_ordd t o h16]
    refine ⟨q1, q2, fun i hi => ?_, q4, fun i p hp => ?_⟩
    · rw [mFl_par t _ (by omega)]
      exact q3 i hi
    · have hi : i < 16 := Nat.lt_of_lt_of_le (List.getElem?_eq_some_iff.mp hp).1 (aWf_len hf ho)
      rw [mFl_ord t _ (by omega)]
      exact q5 i p hp
  · intro o ho
    have h16 := hn o ho
    rw [mFl_has t o h16, mFl_met t o h16]
    exact m5 o ho
  · intro o i ho hi hz
    have h16 := hn o ho
    rw [mFl_fun t _ (by omega), mFl_num t _ (by omega)]
    exact m6 o i ho hi hz
  · intro w u hw hu
    have hw32 : w < 32 := Nat.lt_of_lt_of_le hw hf.2.1
    rw [mFl_way t _ (by omega)]
    exact m7 w u hw hu
def aSet (W : aW) (o i : Nat) (v : Nat × Int32 × Int32) : aW := (aN W, aK W, aP W, aO W, fun a b => if a = o ∧ b = i then v else aS W a b, aWn W, aWy W, aSd W)
theorem aWf_set {W : aW} {o i : Nat} {v : Nat × Int32 × Int32} (hf : aWf W) (h1 : v.1 ≤ 2) (h2 : v.1 = 2 → ∃ f, f < 10 ∧ v.2.1 = nI f) (h3 : v.1 = 1 → v.2.1 = 0) : aWf (aSet W o i v) := by
  obtain ⟨f1, f2, f3, f4, f5⟩ := hf
  refine ⟨f1, f2, f3, ?_, f5⟩
  intro a b ha hb
  show (if a = o ∧ b = i then v else aS W a b).1 ≤ 2 ∧ _
  by_cases he : a = o ∧ b = i
  · have e : aS (aSet W o i v) a b = v := if_pos he
    rw [if_pos he, e]
    exact ⟨h1, h2, h3⟩
  · have e : aS (aSet W o i v) a b = aS W a b := if_neg he
    rw [if_neg he, e]
    exact f4 a b ha hb
def xput (s : zS) (o i : Nat) (t f v : Int32) : zS := zs (zs (zs s 8 (o * 16 + i) t) 9 (o * 16 + i) f) 10 (o * 16 + i) v
theorem sX_putValue (d o i : Nat) (v : Int32) (s : zS) (ho : o < 16) (hi : i < 16) : zcall zMs skX (d + 1) 69 [.inr (.inr 2), .inl (nI o), .inl (nI i), .inl v] s = some (none, xput s o i 1 0 v) := by
  rw [aX_W_putValue]
  unfold bX_W_putValue_0
  rw [nlit16, zin_nI (by omega) (by omega), nI_clamp (by omega), zin_nI (by omega) (by omega), zin_nI (by omega) (by omega)]
  rfl
theorem sX_putMethod (d o i : Nat) (f v : Int32) (s : zS) (ho : o < 16) (hi : i < 16) : zcall zMs skX (d + 1) 70 [.inr (.inr 2), .inl (nI o), .inl (nI i), .inl f, .inl v] s = some (none, xput s o i 2 f v) := by
  rw [aX_W_putMethod]
  unfold bX_W_putMethod_0
  rw [nlit16, zin_nI (by omega) (by omega), nI_clamp (by omega), zin_nI (by omega) (by omega), zin_nI (by omega) (by omega)]
  rfl
theorem sX_drop (d o i : Nat) (s : zS) (ho : o < 16) (hi : i < 16) : zcall zMs skX (d + 1) 71 [.inr (.inr 2), .inl (nI o), .inl (nI i)] s = some (none, zs s 8 (o * 16 + i) 0) := by
  rw [aX_W_drop]
  unfold bX_W_drop_0
  rw [nlit16, zin_nI (by omega) (by omega), nI_clamp (by omega)]
theorem pair16 {a b o i : Nat} (hb : b < 16) (hi : i < 16) : (a * 16 + b = o * 16 + i) ↔ (a = o ∧ b = i) := by omega
theorem pair16' {a b o i : Nat} (hb : b < 16) (hi : i < 16) : (16 * a + b = 16 * o + i) ↔ (a = o ∧ b = i) := by omega
theorem aX_put {s : zS} {W : aW} {o i t : Nat} {f v : Int32} (hX : aX 2 s W) (hi : i < 16) : aX 2 (xput s o i (nI t) f v) (aSet W o i (t, f, v)) := by
  obtain ⟨x1, x2, x3, x4, x5, x6⟩ := hX
  refine ⟨x1, x2, x3, x4, ?_, x6⟩
  intro a b ha hb
  obtain ⟨y1, y2⟩ := x5 a b ha hb
  have e : aS (aSet W o i (t, f, v)) a b = if a = o ∧ b = i then (t, f, v) else aS W a b := rfl
  rw [e]
  simp only [xput, zg_zs]
  by_cases he : a = o ∧ b = i
  · obtain ⟨rfl, rfl⟩ := he
    simp
  · have hne : ¬ (a * 16 + b = o * 16 + i) := fun h => he ((pair16 hb hi).mp h)
    simp only [if_neg he, if_neg hne]
    simp only [ite_self]
    exact ⟨y1, y2⟩
theorem aX_drop {s : zS} {W : aW} {o i : Nat} (hX : aX 2 s W) (hi : i < 16) : aX 2 (zs s 8 (o * 16 + i) 0) (aSet W o i (0, 0, 0)) := by
  obtain ⟨x1, x2, x3, x4, x5, x6⟩ := hX
  refine ⟨x1, x2, x3, x4, ?_, x6⟩
  intro a b ha hb
  obtain ⟨y1, y2⟩ := x5 a b ha hb
  have e : aS (aSet W o i (0, 0, 0)) a b = if a = o ∧ b = i then (0, 0, 0) else aS W a b := rfl
  rw [e]
  simp only [zg_zs]
  by_cases he : a = o ∧ b = i
  · obtain ⟨rfl, rfl⟩ := he
    simp [nI_0]
  · have hne : ¬ (a * 16 + b = o * 16 + i) := fun h => he ((pair16 hb hi).mp h)
    simp only [if_neg he, if_neg hne]
    simp only [ite_self]
    exact ⟨y1, y2⟩
theorem aB_set (p : Nat → Bool) (i : Nat) (hi : i < 16) : aB p 16 ||| ((1 : Int32) <<< (nI i &&& 31)) = aB (fun b => if b = i then true else p b) 16 := by
  apply aB_ext
  intro b hb
  rw [Int32.toBitVec_or, BitVec.getLsbD_or, aB_bit p 16 (Nat.le_refl _) b hb, aB_bit _ 16 (Nat.le_refl _) b hb, aB_one i hi b hb]
  by_cases he : b = i
  · subst he
    simp [hi]
  · simp [he]
theorem aB_m1 : ∀ b, b < 32 → (-1 : Int32).toBitVec.getLsbD b = true := by decide +kernel
theorem aB_clr (p : Nat → Bool) (i : Nat) (hi : i < 16) : aB p 16 &&& (((1 : Int32) <<< (nI i &&& 31)) ^^^ (-1)) = aB (fun b => if b = i then false else p b) 16 := by
  apply aB_ext
  intro b hb
  rw [Int32.toBitVec_and, BitVec.getLsbD_and, Int32.toBitVec_xor, BitVec.getLsbD_xor, aB_bit p 16 (Nat.le_refl _) b hb, aB_bit _ 16 (Nat.le_refl _) b hb, aB_one i hi b hb, aB_m1 b hb]
  by_cases he : b = i
  · subst he
    simp
  · simp [he]
def mput (t : zS) (o i : Nat) (h m f v : Int32) : zS := zs (zs (zs (zs t 6 o h) 7 o m) 8 (16 * o + i) f) 9 (16 * o + i) v
theorem aMz_put {t : zS} {W : aW} {o i g : Nat} {f v : Int32} (hM : aMz t W) (hg : g = 1 ∨ g = 2) (hi : i < 16) : aMz (mput t o i (aB (fun b => if b = i then true else decide ((aS W o b).1 ≠ 0)) 16) (aB (fun b => if b = i then decide (g = 2) else decide ((aS W o b).1 = 2)) 16) f v) (aSet W o i (g, f, v)) := by
  obtain ⟨m1, m2, m3, m4, m5, m6, m7⟩ := hM
  have e : ∀ a b, aS (aSet W o i (g, f, v)) a b = if a = o ∧ b = i then (g, f, v) else aS W a b := fun a b => rfl
  refine ⟨m1, m2, m3, m4, ?_, ?_, m7⟩
  · intro a ha
    obtain ⟨q1, q2⟩ := m5 a ha
    simp only [mput, zg_zs, e]
    by_cases he : a = o
    · subst he
      simp only [true_and, if_true, show (6 : Nat) = 9 ↔ False by decide, show (6 : Nat) = 8 ↔ False by decide, show (6 : Nat) = 7 ↔ False by decide, show (7 : Nat) = 9 ↔ False by decide, show (7 : Nat) = 8 ↔ False by decide, if_false]
      constructor
      · congr 1
        funext b
        by_cases hb : b = i
        · simp only [hb, if_true]
          rcases hg with rfl | rfl <;> rfl
        · simp only [hb, if_false]
      · congr 1
        funext b
        by_cases hb : b = i
        · simp only [hb, if_true]
        · simp only [hb, if_false]
    · simp only [he, false_and, if_false, if_true, show (6 : Nat) = 9 ↔ False by decide, show (6 : Nat) = 8 ↔ False by decide, show (6 : Nat) = 7 ↔ False by decide, show (7 : Nat) = 9 ↔ False by decide, show (7 : Nat) = 8 ↔ False by decide, show (7 : Nat) = 6 ↔ False by decide]
      exact ⟨q1, q2⟩
  · intro a b ha hb hz
    rw [e] at hz ⊢
    simp only [mput, zg_zs]
    by_cases he : a = o ∧ b = i
    · obtain ⟨rfl, rfl⟩ := he
      simp
    · have hne : ¬ (16 * a + b = 16 * o + i) := fun h => he ((pair16' hb hi).mp h)
      simp only [if_neg he] at hz ⊢
      simp only [if_neg hne, ite_self]
      have := m6 a b ha hb hz
      simpa using this
