/-! THE REFERENCE's sends: what it holds, its small methods -/
def mQ (W : aW) (o : Nat) (t0 t : zS) (e : eT) : Prop :=
  aMz t (eSlf W o e.1) ∧ zg t 0 29 = nI e.2.1 ∧ zg t 0 33 = nI e.2.2.length ∧ (∀ i, i < 30 → i < e.2.2.length → zg t 20 i = nI (e.2.2.getD i 0)) ∧ zg t 0 38 = nI o ∧ (∀ p, p ≠ 0 → p ≠ 6 → p ≠ 7 → p ≠ 8 → p ≠ 9 → p ≠ 20 → ∀ i, zg t p i = zg t0 p i) ∧ (∀ i, i ≠ 28 → i ≠ 29 → i ≠ 33 → zg t 0 i = zg t0 0 i) ∧ (∀ p i, zgl t p i = zgl t0 p i)
def mA (W : aW) (t0 : zS) (A : Nat → List Nat) : Prop := (∀ c, c < 4 → zg t0 23 c = nI (A c).length ∧ (A c).length ≤ 32 ∧ ∀ i w, (A c)[i]? = some w → zg t0 22 (32 * c + i) = nI w ∧ w < aWn W) ∧ A 5 = []
theorem aMz_fr {t t' : zS} {W : aW} (h : ∀ p, 1 ≤ p → p ≤ 10 → ∀ i, zg t' p i = zg t p i) (h0 : zg t' 0 0 = zg t 0 0) (h10 : zg t' 0 10 = zg t 0 10) (h12 : zg t' 0 12 = zg t 0 12) (hM : aMz t W) : aMz t' W := by
  unfold aMz at hM ⊢
  simp only [h0, h10, h12, h 1 (by decide) (by decide), h 2 (by decide) (by decide), h 3 (by decide) (by decide), h 4 (by decide) (by decide), h 5 (by decide) (by decide), h 6 (by decide) (by decide), h 7 (by decide) (by decide), h 8 (by decide) (by decide), h 9 (by decide) (by decide), h 10 (by decide) (by decide)]
  exact hM
theorem mQ_28 {W : aW} {o : Nat} {t0 t : zS} {e : eT} (v : Int32) (h : mQ W o t0 t e) : mQ W o t0 (zs t 0 28 v) e := by
  obtain ⟨q1, q2, q3, q4, q5, q6, q7, q8⟩ := h
  exact ⟨aMz_fr (fun p h1 _ i => zgz_ne (by omega)) rfl rfl rfl q1, q2, q3, fun i h1 h2 => q4 i h1 h2, q5, fun p a b c d f g i => (zgz_ne a).trans (q6 p a b c d f g i), fun i a b c => (zgz_nj a).trans (q7 i a b c), q8⟩
theorem mQ_29 {W : aW} {o r : Nat} {t0 t : zS} {e : eT} (h : mQ W o t0 t e) : mQ W o t0 (zs t 0 29 (nI r)) (e.1, r, e.2.2) := by
  obtain ⟨q1, q2, q3, q4, q5, q6, q7, q8⟩ := h
  exact ⟨aMz_fr (fun p h1 _ i => zgz_ne (by omega)) rfl rfl rfl q1, rfl, q3, fun i h1 h2 => q4 i h1 h2, q5, fun p a b c d f g i => (zgz_ne a).trans (q6 p a b c d f g i), fun i a b c => (zgz_nj b).trans (q7 i a b c), q8⟩
/-- what a call of the reference answers is what r says -/
def mR (W : aW) (o : Nat) (t0 : zS) (z : zR) (r : eR) : Prop := ∃ v t', z = some (some (.inl v), t') ∧ mQ W o t0 t' r.2.2 ∧ zg t' 0 28 = nI r.1 ∧ (r.1 = 0 → v = r.2.1)
theorem sM_fails (D : Nat) (t : zS) : zcall zMs skM (D + 1) 177 [.inr (.inr 0)] t = some (some (.inl 0), zs t 0 28 1) := by
  rw [aM_M_fails]; rfl
theorem mR_fails {W : aW} {o : Nat} {t0 t : zS} {e : eT} (D : Nat) (h : mQ W o t0 t e) : mR W o t0 (zcall zMs skM (D + 1) 177 [.inr (.inr 0)] t) (1, 0, e) :=
  ⟨0, _, sM_fails D t, mQ_28 1 h, rfl, fun _ => rfl⟩
theorem mR_id {W : aW} {o : Nat} {t0 : zS} {z : zR} {r : eR} (h : mR W o t0 z r) : mR W o t0 (zcI z fun r s => some (some (.inl r), s)) r := by
  obtain ⟨v, t', h1, h2⟩ := h
  exact ⟨v, t', by rw [h1, zcI_some], h2⟩
def mo (c : Nat) : Nat := if c = 4 then 0 else if c = 3 then 1 else if c = 0 then 2 else 3
def mPre (W : aW) (o : Nat) (A : Nat → List Nat) (t0 : zS) (n c sl ix : Nat) (e : eT) : Prop :=
  eOk W o e ∧ sl < 16 ∧ ix ≤ 32 ∧ (c = 4 → ix ≤ (aO W o).length) ∧ (c ≠ 4 → mA W t0 A ∧ sl = 0) ∧ (c = 4 ∨ c = 3 ∨ c = 0 ∨ c = 5) ∧ 201 + (if c = 3 then 1 else 0) ≤ n + e.2.1
def mNext (W : aW) (o : Nat) (A : Nat → List Nat) (t0 : zS) (n D : Nat) (E : eE) : Prop :=
  ∀ (c sl ix : Nat) (x y : Int32) (e : eT) (t : zS), mPre W o A t0 n c sl ix e → (c ≠ 5 → y = nI ix - 1) → mQ W o t0 t e → zg t 0 28 = 0 → mR W o t0 (zcall zMs skM D 181 [.inr (.inr 0), .inl (nI (mo c)), .inl (nI sl), .inl y, .inl x] t) (E c sl ix x e)
def mSend (W : aW) (o : Nat) (A : Nat → List Nat) (t0 : zS) (n D : Nat) (E : eE) : Prop :=
  ∀ (sl : Nat) (x : Int32) (e : eT) (t : zS), mPre W o A t0 n 4 sl 0 e → mQ W o t0 t e → zg t 0 28 = 0 → mR W o t0 (zcall zMs skM D 179 [.inr (.inr 0), .inl (nI sl), .inl x] t) (E 4 sl 0 x e)
def mGoes (W : aW) (o : Nat) (A : Nat → List Nat) (t0 : zS) (n D : Nat) (E : eE) : Prop :=
  ∀ (c ix : Nat) (x : Int32) (e : eT) (t : zS), c < 4 → ix < (A c).length → mA W t0 A → eOk W o e → 201 + (if c = 3 then 1 else 0) ≤ n + e.2.1 → mQ W o t0 t e → zg t 0 28 = 0 → mR W o t0 (zcall zMs skM D 185 [.inr (.inr 0), .inl (nI c), .inl (nI ix), .inl x, .inl (nI (mo (eC c)))] t) (E c 0 ix x e)
def mEv (W : aW) (o : Nat) (A : Nat → List Nat) (t0 : zS) (n : Nat) (E : eE) : Prop := ∀ D, 3 * n + 4 ≤ D → mNext W o A t0 n D E ∧ mSend W o A t0 n D E ∧ mGoes W o A t0 n D E
theorem sM_slotOf2 (D : Nat) (k : Int32) (t : zS) : zcall zMs skM (D + 1) 178 [.inl k] t = some (some (.inl (nI (eMod k))), t) := by
  rw [aM_M_slotOf2]
  unfold bM_M_slotOf2_0
  rw [eMod_and]
theorem mSets {W : aW} {o : Nat} {t0 t : zS} {e : eT} (D : Nat) (k x : Int32) (ho : o < aN W) (hok : eOk W o e) (hQ : mQ W o t0 t e) (h28 : zg t 0 28 = 0) : mR W o t0 (zcall zMs skM (D + 2) 182 [.inr (.inr 0), .inl (nI (eMod k)), .inl x] t) (if aK W o = 1 ∨ aK W o = 3 then (1, 0, e) else (0, x, (eUp e.1 (eMod k) (1, 0, x), e.2))) := by
  have h16 : o < 16 := aWf_lt hok.1 ho
  have hk : zg t 1 o = nI (aK W o) := (hQ.1.2.2.2.1 o ho).1
  have hk4 : aK W o < 4 := (hok.1.2.2.1 o ho).1
  rw [aM_M_sets]
  unfold bM_M_sets_0
  rw [hQ.2.2.2.2.1, zin_nI h16 (by decide), nI_clamp (by omega), hk]
  by_cases h1 : aK W o = 1
  · rw [if_pos (show nI (aK W o) = 1 by rw [h1]; decide), if_pos (Or.inl h1)]
    exact mR_id (mR_fails _ hQ)
  · rw [if_neg (show ¬ nI (aK W o) = (1 : Int32) from fun h => h1 ((nI_i3 (by omega) 1 (by omega)).mp h)), zin_nI h16 (by decide)]
    by_cases h3 : aK W o = 3
    · rw [if_neg (show ¬ ¬ nI (aK W o) = 3 by rw [h3]; decide), if_pos (Or.inr h3)]
      exact mR_id (mR_fails _ hQ)
    · rw [if_pos (show ¬ nI (aK W o) = (3 : Int32) from fun h => h3 ((nI_i3 (by omega) 3 (by omega)).mp h)), if_neg (by omega), sM_hold0 (W := eSlf W o e.1) D o (eMod k) x t hok.1 (aM_ofz hok.1 hQ.1) ho (eMod_lt k), zcV_some]
      obtain ⟨q1, q2, q3, q4, q5, q6, q7, q8⟩ := hQ
      have hput := aMz_put (g := 1) (f := 0) (v := x) (o := o) q1 (Or.inl rfl) (eMod_lt k)
      rw [← eSlf_up] at hput
      refine ⟨x, _, rfl, ⟨hput, q2, q3, fun i h1 h2 => q4 i h1 h2, q5, fun p a b c d f g i => ?_, fun i a b c => q7 i a b c, q8⟩, h28, fun _ => rfl⟩
      unfold mput
      rw [zgz_ne f, zgz_ne d, zgz_ne c, zgz_ne b, q6 p a b c d f g i]
theorem mR_bnd {W : aW} {o : Nat} {t0 : zS} {z : zR} {r : eR} {G : Int32 → eT → eR} {k : Int32 → zS → zR} (h : mR W o t0 z r) (h0 : r.1 = 0 → ∀ t', mQ W o t0 t' r.2.2 → zg t' 0 28 = 0 → mR W o t0 (k r.2.1 t') (G r.2.1 r.2.2)) (h1 : r.1 ≠ 0 → ∀ v t', mQ W o t0 t' r.2.2 → zg t' 0 28 = nI r.1 → ∃ w, k v t' = some (some (.inl w), t')) : mR W o t0 (zcI z k) (eBnd r G) := by
  obtain ⟨v, t', g1, g2, g3, g4⟩ := h
  rw [g1, zcI_some]
  unfold eBnd
  by_cases c : r.1 = 0
  · rw [if_pos c, g4 c]
    exact h0 c t' g2 (by rw [g3, c]; rfl)
  · rw [if_neg c]
    obtain ⟨w, hw⟩ := h1 c v t' g2 g3
    exact ⟨w, t', hw, g2, g3, fun hz => absurd hz c⟩
theorem n28_ne {r : eR} (h : r.1 ≠ 0) (h2 : r.1 ≤ 2) : ¬ nI r.1 = 0 := nI_ne0 (by omega) (by omega)
/-- a METHOD that runs -/
theorem mDo {W : aW} {o n D : Nat} {A : Nat → List Nat} {t0 : zS} {E : eE} (ho : o < aN W) (hN : mNext W o A t0 n (D + 2) E) (hS : mSend W o A t0 n (D + 2) E) (hP : ∀ c sl ix x e, eOk W o e → ePo W o A e (E c sl ix x e)) (c sl ix : Nat) (f k x y : Int32) (e : eT) (t : zS) (hr : e.2.1 < 200) (hpre : mPre W o A t0 n c sl ix (e.1, e.2.1 + 1, e.2.2)) (hy : c ≠ 5 → y = nI ix - 1) (hQ : mQ W o t0 t e) (h28 : zg t 0 28 = 0) : mR W o t0 (zcall zMs skM (D + 3) 183 [.inr (.inr 0), .inl f, .inl k, .inl x, .inl (nI (mo c)), .inl (nI sl), .inl y] t) (eDo E W o c sl ix f k x (e.1, e.2.1 + 1, e.2.2)) := by
  obtain ⟨hok, hs, hix, hc4, hcA, hc, hfu⟩ := id hpre
  have hQ1 : mQ W o t0 (zs t 0 29 (nI (e.2.1 + 1))) (e.1, e.2.1 + 1, e.2.2) := mQ_29 hQ
  have h281 : zg (zs t 0 29 (nI (e.2.1 + 1))) 0 28 = 0 := h28
  have hfu1 : 201 ≤ n + (e.2.1 + 1) := by
    have : 201 + (if c = 3 then 1 else 0) ≤ n + (e.2.1 + 1) := hfu
    split at this <;> omega
  have pre4 : ∀ e', eOk W o e' → e.2.1 + 1 ≤ e'.2.1 → mPre W o A t0 n 4 (eMod k) 0 e' := fun e' h1 h2 => ⟨h1, eMod_lt k, by omega, fun _ => Nat.zero_le _, fun h => absurd rfl h, Or.inl rfl, by rw [if_neg (by decide)]; omega⟩
  have pre1 : ∀ e', eOk W o e' → e.2.1 + 1 ≤ e'.2.1 → mPre W o A t0 n c sl ix e' := fun e' h1 h2 => ⟨h1, hs, hix, hc4, hcA, hc, by
    have : 201 + (if c = 3 then 1 else 0) ≤ n + (e.2.1 + 1) := hfu
    omega⟩
  rw [aM_M_runs]
  unfold bM_M_runs_0
  rw [hQ.2.1, if_pos (show ¬ nI e.2.1 = (200 : Int32) from fun h => by have := (nI_i3 (by omega) 200 (by omega)).mp h; omega), nI_1]
  generalize he1 : ((e.1, e.2.1 + 1, e.2.2) : eT) = e1 at hQ1 hok hpre
  have hr1 : e1.2.1 = e.2.1 + 1 := by rw [← he1]
  generalize hu : zs t 0 29 (nI (e.2.1 + 1)) = u at hQ1 h281
  unfold eDo
  by_cases c0 : f = (0 : Int32)
  · rw [if_pos c0, if_pos c0]
    exact ⟨_, _, rfl, hQ1, h281, fun _ => rfl⟩
  rw [if_neg c0, if_neg c0]
  by_cases c1 : f = ((0 : Int32) + 1)
  · rw [if_pos c1, if_pos c1]
    exact ⟨_, _, rfl, hQ1, h281, fun _ => rfl⟩
  rw [if_neg c1, if_neg c1]
  by_cases c2 : f = (((0 : Int32) + 1) + 1)
  · rw [if_pos c2, if_pos c2]
    exact mR_id (hN c sl ix (x + k) y e1 u hpre hy hQ1 h281)
  rw [if_neg c2, if_neg c2]
  by_cases c3 : f = ((((0 : Int32) + 1) + 1) + 1)
  · rw [if_pos c3, if_pos c3]
    obtain ⟨p1, p2, p3, -⟩ := hP c sl ix x e1 hok
    refine mR_bnd (hN c sl ix x y e1 u hpre hy hQ1 h281) ?_ ?_
    · intro _ t' g1 g2
      rw [g2, if_neg (show ¬ ¬ (0 : Int32) = 0 by decide)]
      exact mR_id (hN c sl ix _ y _ t' (pre1 _ p2 (by omega)) hy g1 g2)
    · intro hne v t' g1 g2
      rw [g2, if_pos (n28_ne hne p1)]
      exact ⟨_, rfl⟩
  rw [if_neg c3, if_neg c3]
  by_cases c4 : f = (((((0 : Int32) + 1) + 1) + 1) + 1)
  · rw [if_pos c4, if_pos c4, sM_slotOf2, zcI_some]
    exact mR_id (hS (eMod k) x e1 u (pre4 e1 hok (by omega)) hQ1 h281)
  rw [if_neg c4, if_neg c4]
  by_cases c5 : f = ((((((0 : Int32) + 1) + 1) + 1) + 1) + 1)
  · rw [if_pos c5, if_pos c5, sM_slotOf2, zcI_some]
    refine mR_bnd (hS (eMod k) 0 e1 u (pre4 e1 hok (by omega)) hQ1 h281) ?_ ?_
    · intro _ t' g1 g2
      exact ⟨_, _, rfl, g1, g2, fun _ => rfl⟩
    · intro _ v t' g1 g2
      exact ⟨_, rfl⟩
  rw [if_neg c5, if_neg c5]
  by_cases c6 : f = (((((((0 : Int32) + 1) + 1) + 1) + 1) + 1) + 1)
  · rw [if_pos c6, if_pos c6, sM_slotOf2, zcI_some]
    exact mR_id (mSets D k x ho hok hQ1 h281)
  rw [if_neg c6, if_neg c6]
  by_cases c7 : f = ((((((((0 : Int32) + 1) + 1) + 1) + 1) + 1) + 1) + 1)
  · rw [if_pos c7, if_pos c7]
    by_cases hlt : x < k
    · rw [if_pos hlt, if_pos hlt]
      exact mR_id (hN c sl ix x y e1 u hpre hy hQ1 h281)
    · rw [if_neg hlt, if_neg hlt]
      exact ⟨_, _, rfl, hQ1, h281, fun _ => rfl⟩
  rw [if_neg c7, if_neg c7]
  by_cases c8 : f = (((((((((0 : Int32) + 1) + 1) + 1) + 1) + 1) + 1) + 1) + 1)
  · rw [if_pos c8, if_pos c8]
    exact ⟨_, _, rfl, hQ1, h281, fun _ => by rw [hr1]⟩
  rw [if_neg c8, if_neg c8]
  obtain ⟨p1, p2, p3, -⟩ := hP c sl ix x e1 hok
  obtain ⟨v, t', g1, g2, g3, g4⟩ := hN c sl ix x y e1 u hpre hy hQ1 h281
  rw [g1, zcI_some, g3]
  by_cases hr1' : (E c sl ix x e1).1 = 1
  · rw [if_pos hr1', hr1', if_pos nIe1]
    exact ⟨_, _, rfl, mQ_28 0 g2, rfl, fun _ => rfl⟩
  · rw [if_neg hr1', if_neg (show ¬ nI (E c sl ix x e1).1 = (1 : Int32) from fun h => hr1' ((nI_i3 (by omega) 1 (by omega)).mp h))]
    exact ⟨v, t', rfl, g2, g3, g4⟩
theorem mRunsEnd {W : aW} {o : Nat} {t0 : zS} (D : Nat) (f k x m s y : Int32) (e : eT) (t : zS) (hr : e.2.1 = 200) (hQ : mQ W o t0 t e) : mR W o t0 (zcall zMs skM (D + 1) 183 [.inr (.inr 0), .inl f, .inl k, .inl x, .inl m, .inl s, .inl y] t) (2, 0, e) := by
  rw [aM_M_runs]
  unfold bM_M_runs_0
  rw [hQ.2.1, hr, if_neg (show ¬ ¬ nI 200 = (200 : Int32) by decide)]
  exact ⟨_, _, rfl, mQ_28 2 hQ, rfl, fun h => absurd h (show ¬ (2 : Nat) = 0 by decide)⟩
/-- the run of a METHOD, counted -/
theorem mRun {W : aW} {o n D : Nat} {A : Nat → List Nat} {t0 : zS} {E : eE} (ho : o < aN W) (hN : mNext W o A t0 n (D + 2) E) (hS : mSend W o A t0 n (D + 2) E) (hP : ∀ c sl ix x e, eOk W o e → ePo W o A e (E c sl ix x e)) (l : List Nat) (hl : l.length ≤ 1) (c sl ix : Nat) (f k x y : Int32) (e : eT) (t : zS) (hpre : mPre W o A t0 (n + 1) c sl ix e) (hy : c ≠ 5 → y = nI ix - 1) (hQ : mQ W o t0 t (e.1, e.2.1, if e.2.1 < 200 then e.2.2 ++ l else e.2.2)) (h28 : zg t 0 28 = 0) : mR W o t0 (zcall zMs skM (D + 3) 183 [.inr (.inr 0), .inl f, .inl k, .inl x, .inl (nI (mo c)), .inl (nI sl), .inl y] t) (eRun E W o l c sl ix f k x e) := by
  obtain ⟨hok, hs, hix, hc4, hcA, hc, hfu⟩ := hpre
  unfold eRun
  by_cases hr : 200 ≤ e.2.1
  · rw [if_pos hr]
    rw [if_neg (by omega)] at hQ
    exact mRunsEnd (D + 2) f k x _ _ y e t (by have := hok.2.1; omega) hQ
  · rw [if_neg hr]
    rw [if_pos (by omega)] at hQ
    obtain ⟨h1, h2, h3⟩ := hok
    refine mDo ho hN hS hP c sl ix f k x y (e.1, e.2.1, e.2.2 ++ l) t (by show e.2.1 < 200; omega) ⟨⟨h1, ?_, ?_⟩, hs, hix, hc4, hcA, hc, ?_⟩ hy hQ h28
    · show e.2.1 + 1 ≤ 200
      omega
    · show (e.2.2 ++ l).length ≤ e.2.1 + 1
      rw [List.length_append]
      omega
    · show 201 + _ ≤ n + (e.2.1 + 1)
      omega
theorem m201 {c n r : Nat} (h : 201 + (if c = 3 then 1 else 0) ≤ n + r) : 201 ≤ n + r := by
  split at h <;> omega
/-- what a SLOT gives -/
theorem mGives {W : aW} {o n D : Nat} {A : Nat → List Nat} {t0 : zS} {E : eE} (ho : o < aN W) (hN : mNext W o A t0 n (D + 2) E) (hS : mSend W o A t0 n (D + 2) E) (hP : ∀ c sl ix x e, eOk W o e → ePo W o A e (E c sl ix x e)) (sl ix : Nat) (x : Int32) (e : eT) (t : zS) (hpre : mPre W o A t0 (n + 1) 4 sl ix e) (hQ : mQ W o t0 t e) (h28 : zg t 0 28 = 0) : mR W o t0 (zcall zMs skM (D + 4) 180 [.inr (.inr 0), .inl (nI sl), .inl (eFst W o e.1 sl ix), .inl x] t) (eSlot E W o sl ix x e) := by
  obtain ⟨hok, hs, hix, hc4, hcA, hc, hfu⟩ := id hpre
  have hix' := hc4 rfl
  have hlen : (aO W o).length ≤ 16 := aWf_len hok.1 (show o < aN (eSlf W o e.1) from ho)
  have h16 : o < 16 := aWf_lt hok.1 ho
  rw [aM_M_gives]
  unfold bM_M_gives_0 eSlot
  rcases aFst_cases (fun p => aHas (eSlf W o e.1) p sl) ((aO W o).drop ix) ix with ⟨hn1, -⟩ | ⟨i, p, hj, hhas, hj2, -⟩
  · have hef : eFst W o e.1 sl ix = -1 := hn1
    rw [hef, if_neg (show ¬ ¬ (-1 : Int32) = -1 by decide), if_pos rfl]
    exact mR_id (mR_fails _ hQ)
  · have hef : eFst W o e.1 sl ix = nI (ix + i) := hj2
    rw [List.getElem?_drop] at hj
    have hjl := (List.getElem?_eq_some_iff.mp hj).1
    have hat : eAt W o (nI (ix + i)) = p := by
      unfold eAt
      rw [nI_clamp (by omega), List.getD_eq_getElem?_getD, hj]
      rfl
    have hp : p < aN (eSlf W o e.1) := aWf_mem hok.1 (show o < aN (eSlf W o e.1) from ho) (List.mem_of_getElem? hj)
    have hp16 := aWf_lt hok.1 hp
    have htag := aWf_tag hok.1 hp hs
    have hne : (aS (eSlf W o e.1) p sl).1 ≠ 0 := by
      have : aHas (eSlf W o e.1) p sl = true := hhas
      unfold aHas at this
      exact of_decide_eq_true this
    have ho5 : zg t 5 (16 * o + (ix + i)) = nI p := (hQ.1.2.2.2.1 o ho).2.2.2.2 (ix + i) p hj
    have h7 : zg t 7 p = aB (fun b => decide ((aS (eSlf W o e.1) p b).1 = 2)) 16 := (hQ.1.2.2.2.2.1 p hp).2
    obtain ⟨h8, h9⟩ := hQ.1.2.2.2.2.2.1 p sl hp hs hne
    rw [hef, if_pos (nI_neg1 (by omega)), if_neg (nI_neg1 (by omega)), hat, hQ.2.2.2.2.1, nlit16', zin_nI (show 16 * o + (ix + i) < 256 by omega) (by decide), nI_clamp (show 16 * o + (ix + i) < 2 ^ 31 by omega), ho5, zin_nI hp16 (by decide), nI_clamp (show p < 2 ^ 31 by omega), h7, sM_isIn (D + 2) _ sl hs, zcI_some]
    by_cases ht1 : (aS (eSlf W o e.1) p sl).1 = 1
    · rw [zBp_f (by rw [ht1]; decide), if_pos (show (0 : Int32) = 0 from rfl), if_pos ht1, nlit16', zin_nI (show 16 * p + sl < 256 by omega) (by decide), nI_clamp (show 16 * p + sl < 2 ^ 31 by omega), h9]
      exact ⟨_, _, rfl, hQ, h28, fun _ => rfl⟩
    · have ht2 : (aS (eSlf W o e.1) p sl).1 = 2 := by omega
      rw [zBp_t (decide_eq_true ht2), if_neg o1, if_neg ht1, nlit16', zin_nI (show 16 * p + sl < 256 by omega) (by decide), zin_nI (show 16 * p + sl < 256 by omega) (by decide), nI_clamp (show 16 * p + sl < 2 ^ 31 by omega), h8, h9, nI_clamp (show ix + i < 2 ^ 31 by omega)]
      refine mR_id (mRun ho hN hS hP [] (by decide) 4 sl (ix + i + 1) _ _ x (nI (ix + i)) e t ⟨hok, hs, by omega, fun _ => by omega, fun h => absurd rfl h, Or.inl rfl, hfu⟩ (fun _ => (nI_pred _).symm) ?_ h28)
      rw [List.append_nil, ite_self]
      exact hQ
theorem mSend_s {W : aW} {o n D : Nat} {A : Nat → List Nat} {t0 : zS} (ho : o < aN W) (hE : mNext W o A t0 n (D + 2) (ev W o A n) ∧ mSend W o A t0 n (D + 2) (ev W o A n)) : mSend W o A t0 (n + 1) (D + 5) (ev W o A (n + 1)) := by
  intro sl x e t hpre hQ h28
  obtain ⟨hok, hs, hix, hc4, hcA, hc, hfu⟩ := id hpre
  have hfd := sM_found (W := eSlf W o e.1) (D + 2) o sl 0 t hok.1 (aM_ofz hok.1 hQ.1) ho hs (Nat.zero_le _)
  rw [nI_0] at hfd
  have hef : aFst (fun p => aHas (eSlf W o e.1) p sl) ((aO (eSlf W o e.1) o).drop 0) 0 = eFst W o e.1 sl 0 := rfl
  rw [hef] at hfd
  rw [aM_M_sends]
  unfold bM_M_sends_0
  rw [hQ.2.2.2.2.1, hfd, zcI_some]
  exact mR_id (mGives ho hE.1 hE.2 (ev_ok W o A n) sl 0 x e t hpre hQ h28)
theorem nI_m1 (k : Nat) : nI k + (-1 : Int32) = nI k - 1 := by
  rw [Int32.sub_eq_add_neg]
theorem nI_m1p (k : Nat) : nI k - 1 + 1 = nI k := by
  rw [Int32.sub_add_cancel]
theorem sM_wayz {W : aW} {t : zS} (D w u : Nat) (hn : aWn W ≤ 32) (hM : aMz t W) (hw : w < aWn W) (hu : u < 6) : zcall zMs skM (D + 1) 184 [.inr (.inr 0), .inl (nI u), .inl (nI w)] t = some (some (.inl (aWy W w u)), t) := by
  rw [aM_M_way]
  unfold bM_M_way_0
  rw [nlit32', zin_nI (show 32 * u + w < 192 by omega) (by decide), nI_clamp (show 32 * u + w < 2 ^ 31 by omega), hM.2.2.2.2.2.2 w u hw hu]
/-- a way that goes -/
theorem mGoes_s {W : aW} {o n D : Nat} {A : Nat → List Nat} {t0 : zS} (ho : o < aN W) (hE : mNext W o A t0 n (D + 2) (ev W o A n) ∧ mSend W o A t0 n (D + 2) (ev W o A n)) : mGoes W o A t0 (n + 1) (D + 4) (ev W o A (n + 1)) := by
  intro c ix x e t hc hix hA hok hfu hQ h28
  obtain ⟨a1, a2, a3⟩ := hA.1 c hc
  have hg : (A c)[ix]? = some (A c)[ix] := List.getElem?_eq_getElem hix
  have hgd : (A c).getD ix 0 = (A c)[ix] := by rw [List.getD_eq_getElem?_getD, hg]; rfl
  show mR W o t0 _ (if c = 4 then eSlot (ev W o A n) W o 0 ix x e else if ix < (A c).length then eWay (ev W o A n) W o c 0 ix ((A c).getD ix 0) x e else if c = 3 ∧ 0 < (A 0).length then eBef (ev W o A n) A x (A 1).length 0 e else (1, 0, e))
  rw [if_neg (by omega), if_pos hix, hgd]
  obtain ⟨h22, hw⟩ := a3 ix _ hg
  generalize (A c)[ix] = w at hg hw h22
  have h22' : zg t 22 (32 * c + ix) = nI w := (hQ.2.2.2.2.2.1 22 (by decide) (by decide) (by decide) (by decide) (by decide) (by decide) _).trans h22
  have hL := eOk_len hok
  have hwn : aWn (eSlf W o e.1) ≤ 32 := hok.1.2.1
  have hpre : mPre W o A t0 (n + 1) (eC c) 0 (eI c ix) e := by
    refine ⟨hok, by omega, ?_, ?_, fun _ => ⟨hA, rfl⟩, ?_, ?_⟩
    · unfold eI
      split <;> omega
    · unfold eC
      split <;> omega
    · unfold eC
      split <;> omega
    · rw [eC_3]
      exact hfu
  have hy : eC c ≠ 5 → nI ix = nI (eI c ix) - 1 := by
    unfold eC eI
    intro h
    split at h
    · rename_i h3
      rw [if_pos h3, nI_pred]
    · exact absurd rfl h
  rw [aM_M_goes]
  unfold bM_M_goes_0
  rw [nlit32', zin_nI (show 32 * c + ix < 128 by omega) (by decide), nI_clamp (show 32 * c + ix < 2 ^ 31 by omega), h22', hQ.2.1]
  by_cases hr : 200 ≤ e.2.1
  · have e4 := sM_wayz (W := eSlf W o e.1) (D + 2) w 4 hwn hQ.1 hw (by decide)
    have e5 := sM_wayz (W := eSlf W o e.1) (D + 2) w 5 hwn hQ.1 hw (by decide)
    rw [show nI 4 = (4 : Int32) by decide] at e4
    rw [show nI 5 = (5 : Int32) by decide] at e5
    rw [if_pos (show (200 : Int32) ≤ nI e.2.1 from nI_le hr (by have := hok.2.1; omega)), e4, zcI_some, e5, zcI_some]
    refine mR_id (mRun ho hE.1 hE.2 (ev_ok W o A n) [w] (by simp) (eC c) 0 (eI c ix) _ _ x (nI ix) e t hpre hy ?_ h28)
    rw [if_neg (by omega)]
    exact hQ
  · rw [if_neg (show ¬ (200 : Int32) ≤ nI e.2.1 from nI_ge (show e.2.1 < 200 by omega) (by decide)), hQ.2.2.1]
    have key : ∀ v : zS, (∀ p, p ≠ 20 → ∀ i, zg v p i = zg t p i) → (∀ p i, zgl v p i = zgl t p i) → (∀ i, i < 30 → zg v 20 i = if i = e.2.2.length then nI w else zg t 20 i) → mR W o t0 (zcI (zcall zMs skM (D + 3) 184 [.inr (.inr 0), .inl (4 : Int32), .inl (nI w)] (zs v 0 33 (nI e.2.2.length + 1))) fun r110 s109 => zcI (zcall zMs skM (D + 3) 184 [.inr (.inr 0), .inl (5 : Int32), .inl (nI w)] s109) fun r112 s111 => zcI (zcall zMs skM (D + 3) 183 [.inr (.inr 0), .inl r110, .inl r112, .inl x, .inl (nI (mo (eC c))), .inl (0 : Int32), .inl (nI ix)] s111) fun r114 s113 => some (some (.inl r114), s113)) (eWay (ev W o A n) W o c 0 ix w x e) := by
      intro v v1 v2 v3
      obtain ⟨q1, q2, q3, q4, q5, q6, q7, q8⟩ := hQ
      have hQ' : mQ W o t0 (zs v 0 33 (nI e.2.2.length + 1)) (e.1, e.2.1, e.2.2 ++ [w]) := by
        refine ⟨aMz_fr (fun p h1 h10 i => ?_) ?_ ?_ ?_ q1, ?_, ?_, ?_, ?_, ?_, ?_, ?_⟩
        · rw [zgz_ne (by omega), v1 p (by omega)]
        · rw [zgz_nj (by decide), v1 0 (by decide)]
        · rw [zgz_nj (by decide), v1 0 (by decide)]
        · rw [zgz_nj (by decide), v1 0 (by decide)]
        · rw [zgz_nj (by decide), v1 0 (by decide)]
          exact q2
        · rw [zgz_eq, nI_1]
          show _ = nI (e.2.2 ++ [w]).length
          rw [List.length_append]
          rfl
        · intro i h1 h2
          rw [zgz_ne (by decide), v3 i h1]
          have h2' : i < (e.2.2 ++ [w]).length := h2
          have := tr_app e.2.2 w 0 i (nI 7)
          rw [if_pos ⟨Nat.zero_le _, by omega⟩, Nat.zero_add, Nat.sub_zero] at this
          show _ = nI ((e.2.2 ++ [w]).getD i 0)
          rw [this]
          by_cases hi : i = e.2.2.length
          · rw [if_pos hi, if_pos hi]
          · have hi2 : i < e.2.2.length := by
              rw [List.length_append] at h2'
              have : [w].length = 1 := rfl
              omega
            rw [if_neg hi, if_neg hi, if_pos ⟨Nat.zero_le _, hi2⟩]
            exact q4 i h1 hi2
        · rw [zgz_nj (by decide), v1 0 (by decide)]
          exact q5
        · intro p b1 b2 b3 b4 b5 b6 i
          rw [zgz_ne b1, v1 p b6, q6 p b1 b2 b3 b4 b5 b6 i]
        · intro i b1 b2 b3
          rw [zgz_nj b3, v1 0 (by decide), q7 i b1 b2 b3]
        · intro p i
          rw [zgl_zs, v2, q8]
      have h28' : zg (zs v 0 33 (nI e.2.2.length + 1)) 0 28 = 0 := by
        rw [zgz_nj (by decide), v1 0 (by decide)]
        exact h28
      have e4 := sM_wayz (W := eSlf W o e.1) (D + 2) w 4 hwn hQ'.1 hw (by decide)
      have e5 := sM_wayz (W := eSlf W o e.1) (D + 2) w 5 hwn hQ'.1 hw (by decide)
      rw [show nI 4 = (4 : Int32) by decide] at e4
      rw [show nI 5 = (5 : Int32) by decide] at e5
      rw [e4, zcI_some, e5, zcI_some]
      refine mR_id (mRun ho hE.1 hE.2 (ev_ok W o A n) [w] (by simp) (eC c) 0 (eI c ix) _ _ x (nI ix) e _ hpre hy ?_ h28')
      rw [if_pos (by omega)]
      exact hQ'
    by_cases h30 : 30 ≤ e.2.2.length
    · rw [if_pos (show (30 : Int32) ≤ nI e.2.2.length from nI_le h30 (by omega))]
      exact key t (fun _ _ _ => rfl) (fun _ _ => rfl) (fun i hi => by rw [if_neg (by omega)])
    · rw [if_neg (show ¬ (30 : Int32) ≤ nI e.2.2.length from nI_ge (show e.2.2.length < 30 by omega) (by decide)), zin_nI (show e.2.2.length < 30 by omega) (by decide), nI_clamp (by omega)]
      exact key (zs t 20 e.2.2.length (nI w)) (fun p hp i => zgz_ne hp) (fun _ _ => rfl) (fun i hi => by rw [zg_zs, if_pos rfl])
