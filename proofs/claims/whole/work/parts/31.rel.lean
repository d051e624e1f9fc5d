/-! THE RELATION between the class's state and the reference's: both are of one abstract world. -/
theorem zg_zs (s : zS) (p i : Nat) (v : Int32) (q j : Nat) : zg (zs s p i v) q j = if q = p then (if j = i then v else zg s q j) else zg s q j := rfl
theorem zgl_zs (s : zS) (p i : Nat) (v : Int32) (q j : Nat) : zgl (zs s p i v) q j = zgl s q j := rfl
theorem zg_zsl (s : zS) (p i : Nat) (v : Int64) (q j : Nat) : zg (zsl s p i v) q j = zg s q j := rfl
theorem zgl_zsl (s : zS) (p i : Nat) (v : Int64) (q j : Nat) : zgl (zsl s p i v) q j = if q = p then (if j = i then v else zgl s q j) else zgl s q j := rfl
theorem zcI_some (r : Int32) (s : zS) (k : Int32 → zS → zR) : zcI (some (some (.inl r), s)) k = k r s := rfl
theorem zcJ_some (r : Int64) (s : zS) (k : Int64 → zS → zR) : zcJ (some (some (.inr (.inl r)), s)) k = k r s := rfl
theorem zcV_some (s : zS) (k : zS → zR) : zcV (some (none, s)) k = k s := rfl
theorem zin_nI {k n : Nat} (h : k < n) (hn : n < 2 ^ 31) (r : zR) : zin (nI k) n r = r := by
  unfold zin
  rw [if_neg (nI_in h hn)]
theorem zbo_0 (r : zR) : zbo 0 r = r := rfl
theorem zbo_1 (r : zR) : zbo 1 r = r := rfl
/-- a truth as an int -/
def zB1 (p : Prop) [Decidable p] : Int32 := if p then 1 else 0
theorem zB1_eq0 (p : Prop) [Decidable p] : (zB1 p = 0) ↔ ¬ p := by
  unfold zB1
  split <;> simp_all
theorem zbo_B1 (p : Prop) [Decidable p] (r : zR) : zbo (zB1 p) r = r := by
  unfold zB1
  split <;> rfl
/-- the abstract world: how many objects; kinds; parents; orders; slots (0 none, 1 a value, 2 a method; function; number); how many ways; their parts; the seed -/
abbrev aW : Type := Nat × (Nat → Nat) × (Nat → List Nat) × (Nat → List Nat) × (Nat → Nat → Nat × Int32 × Int32) × Nat × (Nat → Nat → Int32) × Int32
def aN (W : aW) : Nat := W.1
def aK (W : aW) : Nat → Nat := W.2.1
def aP (W : aW) : Nat → List Nat := W.2.2.1
def aO (W : aW) : Nat → List Nat := W.2.2.2.1
def aS (W : aW) : Nat → Nat → Nat × Int32 × Int32 := W.2.2.2.2.1
def aWn (W : aW) : Nat := W.2.2.2.2.2.1
def aWy (W : aW) : Nat → Nat → Int32 := W.2.2.2.2.2.2.1
def aSd (W : aW) : Int32 := W.2.2.2.2.2.2.2
/-- bits below k of those for which p holds -/
def aB (p : Nat → Bool) : Nat → Int32
  | 0 => 0
  | k + 1 => if p k = true then aB p k ||| ((1 : Int32) <<< (nI k &&& 31)) else aB p k
def aWf (W : aW) : Prop := aN W ≤ 16 ∧ aWn W ≤ 32 ∧
  (∀ o, o < aN W → aK W o < 4 ∧ (aP W o).length ≤ 3 ∧ (∀ p ∈ aP W o, p < aN W) ∧ (aO W o)[0]? = some o ∧ (aO W o).length ≤ 16 ∧ (∀ p ∈ aO W o, p < aN W) ∧ (aO W o).Nodup) ∧
  (∀ o s, o < aN W → s < 16 → (aS W o s).1 ≤ 2 ∧ ((aS W o s).1 = 2 → ∃ f, f < 10 ∧ (aS W o s).2.1 = nI f) ∧ ((aS W o s).1 = 1 → (aS W o s).2.1 = 0)) ∧
  (∀ w, w < aWn W → ∃ g p q r f, g < 8 ∧ p < aN W ∧ q < aN W ∧ r < 4 ∧ f < 10 ∧ aWy W w 0 = nI g ∧ aWy W w 1 = nI p ∧ aWy W w 2 = nI q ∧ aWy W w 3 = nI r ∧ aWy W w 4 = nI f)
/-- the class's world at place b -/
def aX (b : Nat) (s : zS) (W : aW) : Prop := zg s b 0 = nI (aN W) ∧ zg s b 1 = nI (aWn W) ∧ zg s b 2 = aSd W ∧
  (∀ o, o < aN W → zg s (b + 1) o = nI (aK W o) ∧ zg s (b + 2) o = nI (aP W o).length ∧ (∀ i p, (aP W o)[i]? = some p → zg s (b + 3) (o * 3 + i) = nI p) ∧ zg s (b + 4) o = nI (aO W o).length ∧ (∀ i p, (aO W o)[i]? = some p → zg s (b + 5) (o * 16 + i) = nI p)) ∧
  (∀ o i, o < aN W → i < 16 → zg s (b + 6) (o * 16 + i) = nI (aS W o i).1 ∧ ((aS W o i).1 ≠ 0 → zg s (b + 7) (o * 16 + i) = (aS W o i).2.1 ∧ zg s (b + 8) (o * 16 + i) = (aS W o i).2.2)) ∧
  (∀ w t, w < aWn W → t < 6 → zg s (b + 9) (w * 6 + t) = aWy W w t)
/-- the reference's world, laid out as its image is -/
def mFl (t : zS) (i : Nat) : Int32 := if i < 16 then zg t 6 i else if i < 32 then zg t 7 (i - 16) else if i < 288 then zg t 8 (i - 32) else if i < 544 then zg t 9 (i - 288) else if i < 560 then zg t 1 (i - 544) else if i < 576 then zg t 2 (i - 560) else if i < 592 then zg t 4 (i - 576) else if i < 640 then zg t 3 (i - 592) else if i < 896 then zg t 5 (i - 640) else if i < 1088 then zg t 10 (i - 896) else if i = 1088 then zg t 0 0 else if i = 1089 then zg t 0 10 else zg t 0 12
def aM (f : Nat → Int32) (W : aW) : Prop := f 1088 = nI (aN W) ∧ f 1089 = nI (aWn W) ∧ f 1090 = aSd W ∧
  (∀ o, o < aN W → f (544 + o) = nI (aK W o) ∧ f (560 + o) = nI (aP W o).length ∧ (∀ i, i < 3 → f (592 + (3 * o + i)) = (match (aP W o)[i]? with
    | some p => nI p
    | none => -1)) ∧ f (576 + o) = nI (aO W o).length ∧ (∀ i p, (aO W o)[i]? = some p → f (640 + (16 * o + i)) = nI p)) ∧
  (∀ o, o < aN W → f o = aB (fun i => decide ((aS W o i).1 ≠ 0)) 16 ∧ f (16 + o) = aB (fun i => decide ((aS W o i).1 = 2)) 16) ∧
  (∀ o i, o < aN W → i < 16 → (aS W o i).1 ≠ 0 → f (32 + (16 * o + i)) = (aS W o i).2.1 ∧ f (288 + (16 * o + i)) = (aS W o i).2.2) ∧
  (∀ w t, w < aWn W → t < 6 → f (896 + (32 * t + w)) = aWy W w t)
/-- shelves -/
def aSh (n : Nat) (s t : zS) : Prop := ∀ k, k < 8 → zg s 33 k = zg t 11 k ∧ (zg s 33 k = -1 ∨ (∃ o, o < n ∧ zg s 33 k = nI o) ∨ ∃ r m, r < 4 ∧ m ≤ 160 ∧ zg s 33 k = nI (100 + r) ∧ zg s 34 k = nI m ∧ zg t 12 k = nI m ∧ ∀ i, i < m → zgl s 35 (k * 160 + i) = zgl t 13 (160 * k + i))
def aRest (s t : zS) : Prop := (∀ k, k < 8 → zg s 44 k = zg t 15 k) ∧ zg s 0 8 = zg t 0 16 ∧ zg s 0 9 = zg t 0 30 ∧ zg s 0 10 = zg t 0 31 ∧ (∃ k, k ≤ 1000 ∧ zg s 1 3 = nI k ∧ zg t 0 32 = nI k ∧ ∀ i, i < k → i < 30 → zg s 17 i = zg t 21 i)
def aImg (s t : zS) : Prop := (zg s 0 7 = 0 ∧ zg t 0 39 = 0) ∨ (zg s 0 7 = 1 ∧ zg t 0 39 = 1 ∧ ∃ W, aWf W ∧ aX 22 s W ∧ aM (fun i => zg t 24 i) W)
def aRel (s t : zS) : Prop := ∃ W, aWf W ∧ aX 2 s W ∧ aM (mFl t) W ∧ aSh (aN W) s t ∧ aRest s t ∧ aImg s t
theorem aRel_0 : aRel yXX yXM := by
  refine ⟨(0, fun _ => 0, fun _ => [], fun _ => [], fun _ _ => (0, 0, 0), 0, fun _ _ => 0, 1), ?_, ?_, ?_, ?_, ?_, ?_⟩
  · refine ⟨Nat.zero_le _, Nat.zero_le _, ?_, ?_, ?_⟩
    · intro o h; exact absurd h (Nat.not_lt_zero o)
    · intro o s h; exact absurd h (Nat.not_lt_zero o)
    · intro o h; exact absurd h (Nat.not_lt_zero o)
  · refine ⟨yXX_ini 2 (by decide) 0 (by decide), yXX_ini 2 (by decide) 1 (by decide), yXX_ini 2 (by decide) 2 (by decide), ?_, ?_, ?_⟩
    · intro o h; exact absurd h (Nat.not_lt_zero o)
    · intro o s h; exact absurd h (Nat.not_lt_zero o)
    · intro o s h; exact absurd h (Nat.not_lt_zero o)
  · refine ⟨yXM_ini 0 (by decide) 0 (by decide), yXM_ini 0 (by decide) 10 (by decide), yXM_ini 0 (by decide) 12 (by decide), ?_, ?_, ?_, ?_⟩
    · intro o h; exact absurd h (Nat.not_lt_zero o)
    · intro o h; exact absurd h (Nat.not_lt_zero o)
    · intro o s h; exact absurd h (Nat.not_lt_zero o)
    · intro o s h; exact absurd h (Nat.not_lt_zero o)
  · intro k hk
    have h1 := yXX_ini 33 (by decide) k hk
    have h2 := yXM_ini 11 (by decide) k hk
    exact ⟨h1.trans h2.symm, Or.inl h1⟩
  · refine ⟨fun k hk => (yXX_ini 44 (by decide) k hk).trans (yXM_ini 15 (by decide) k hk).symm, (yXX_ini 0 (by decide) 8 (by decide)).trans (yXM_ini 0 (by decide) 16 (by decide)).symm, (yXX_ini 0 (by decide) 9 (by decide)).trans (yXM_ini 0 (by decide) 30 (by decide)).symm, (yXX_ini 0 (by decide) 10 (by decide)).trans (yXM_ini 0 (by decide) 31 (by decide)).symm, 0, by decide, yXX_ini 1 (by decide) 3 (by decide), yXM_ini 0 (by decide) 32 (by decide), fun i h => absurd h (Nat.not_lt_zero i)⟩
  · exact Or.inl ⟨yXX_ini 0 (by decide) 7 (by decide), yXM_ini 0 (by decide) 39 (by decide)⟩
