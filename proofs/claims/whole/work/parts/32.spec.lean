/-! WHAT THE SMALL METHODS ANSWER, of both sides -/
/-- a number from 0 to n - 1 -/
def zIn (x : Int32) (n : Nat) : Prop := 0 ≤ x.toInt ∧ x.toInt < (n : Int)
noncomputable def zBp (p : Prop) : Int32 := @ite _ p (Classical.propDecidable p) 1 0
theorem zBp_t {p : Prop} (h : p) : zBp p = 1 := by unfold zBp; rw [if_pos h]
theorem zBp_f {p : Prop} (h : ¬ p) : zBp p = 0 := by unfold zBp; rw [if_neg h]
theorem zBp_eq0 (p : Prop) : (zBp p = 0) ↔ ¬ p := by
  by_cases h : p
  · rw [zBp_t h]
    exact ⟨fun e => absurd e (by decide), fun e => absurd h e⟩
  · rw [zBp_f h]
    exact ⟨fun _ => h, fun _ => rfl⟩
theorem zbo_Bp (p : Prop) (r : zR) : zbo (zBp p) r = r := by
  by_cases h : p
  · rw [zBp_t h]; rfl
  · rw [zBp_f h]; rfl
theorem zIn_ex {x : Int32} {n : Nat} (h : zIn x n) (hn : n < 2 ^ 31) : ∃ k, k < n ∧ x = nI k := by
  obtain ⟨h1, h2⟩ := h
  refine ⟨x.toInt.toNat, by omega, ?_⟩
  apply Int32.toInt_inj.mp
  rw [nI_toInt (by omega)]
  omega
theorem zIn_nI {k n : Nat} (h : k < n) (hn : n < 2 ^ 31) : zIn (nI k) n := by
  unfold zIn
  rw [nI_toInt (by omega)]
  omega
theorem zlt (x y : Int32) : (x < y) ↔ x.toInt < y.toInt := Int32.lt_iff_toInt_lt
theorem zle (x y : Int32) : (x ≤ y) ↔ x.toInt ≤ y.toInt := Int32.le_iff_toInt_le
theorem sM_within (d : Nat) (x a b : Int32) (s : zS) : zcall zMs skM (d + 1) 128 [.inl x, .inl a, .inl b] s = some (some (.inl (zBp (a.toInt ≤ x.toInt ∧ x.toInt ≤ b.toInt))), s) := by
  rw [aM_M_within]
  unfold bM_M_within_0
  simp only [zlt, zbo_0, zbo_1]
  by_cases h1 : x.toInt < a.toInt
  · rw [if_pos h1, zBp_f (by omega)]
  · rw [if_neg h1]
    by_cases h2 : b.toInt < x.toInt
    · rw [if_pos h2, zBp_f (by omega)]
    · rw [if_neg h2, zBp_t (by omega)]
theorem zB_iff {p q : Prop} (h : p ↔ q) : zBp p = zBp q := by rw [propext h]
theorem t0 : (0 : Int32).toInt = 0 := by decide
theorem sM_isOne {n : Nat} (d : Nat) (x : Int32) (s : zS) (h : zg s 0 0 = nI n) (hn : n ≤ 16) : zcall zMs skM (d + 2) 129 [.inr (.inr 0), .inl x] s = some (some (.inl (zBp (zIn x n))), s) := by
  rw [aM_M_isOne]
  unfold bM_M_isOne_0
  rw [sM_within, zcI_some, zbo_Bp, h]
  have e : (nI n - 1).toInt = (n : Int) - 1 := by
    rw [Int32.toInt_sub, nI_toInt (by omega), show (1 : Int32).toInt = 1 by decide]
    apply Int.bmod_eq_of_le <;> omega
  rw [zB_iff (q := zIn x n) (by unfold zIn; rw [t0, e]; omega)]
theorem sM_isSlot (d : Nat) (x : Int32) (s : zS) : zcall zMs skM (d + 2) 130 [.inl x] s = some (some (.inl (zBp (zIn x 16))), s) := by
  rw [aM_M_isSlot]
  unfold bM_M_isSlot_0
  rw [sM_within, zcI_some, zbo_Bp, zB_iff (q := zIn x 16) (by unfold zIn; rw [t0, show (15 : Int32).toInt = 15 by decide]; omega)]
theorem sM_in8 (d : Nat) (x : Int32) (s : zS) : zcall zMs skM (d + 1) 128 [.inl x, .inl 0, .inl 7] s = some (some (.inl (zBp (zIn x 8))), s) := by
  rw [sM_within, zB_iff (q := zIn x 8) (by unfold zIn; rw [t0, show (7 : Int32).toInt = 7 by decide]; omega)]
theorem sM_in4 (d : Nat) (x : Int32) (s : zS) : zcall zMs skM (d + 1) 128 [.inl x, .inl 0, .inl 3] s = some (some (.inl (zBp (zIn x 4))), s) := by
  rw [sM_within, zB_iff (q := zIn x 4) (by unfold zIn; rw [t0, show (3 : Int32).toInt = 3 by decide]; omega)]
theorem sM_isGeneric (d : Nat) (x : Int32) (s : zS) : zcall zMs skM (d + 2) 193 [.inl x] s = some (some (.inl (zBp (zIn x 8))), s) := by
  rw [aM_M_isGeneric]
  unfold bM_M_isGeneric_0
  rw [sM_in8, zcI_some, zbo_Bp]
theorem sX_lim (x : Int32) (L : Int32) (n : Nat) (hL : L.toInt = n) (s : zS) : (if x < 0 then zbo (0 : Int32) <| some (some (.inl (0 : Int32)), s) else (if L ≤ x then (zbo (0 : Int32) <| some (some (.inl (0 : Int32)), s)) else (zbo (1 : Int32) <| some (some (.inl (1 : Int32)), s))) : zR) = some (some (.inl (zBp (zIn x n))), s) := by
  simp only [zlt, zle, zbo_0, zbo_1, t0]
  unfold zIn
  by_cases h1 : x.toInt < 0
  · rw [if_pos h1, zBp_f (by omega)]
  · rw [if_neg h1]
    by_cases h2 : L.toInt ≤ x.toInt
    · rw [if_pos h2, zBp_f (by omega)]
    · rw [if_neg h2, zBp_t (by omega)]
theorem sX_isShelf (d : Nat) (x : Int32) (s : zS) : zcall zMs skX (d + 1) 47 [.inr (.inr 32), .inl x] s = some (some (.inl (zBp (zIn x 8))), s) := by
  rw [aX_H_isShelf]
  exact sX_lim x 8 8 (by decide) s
theorem sX_isSlot (d : Nat) (x : Int32) (s : zS) : zcall zMs skX (d + 1) 122 [.inl x] s = some (some (.inl (zBp (zIn x 16))), s) := by
  rw [aX_X_isSlot]
  exact sX_lim x 16 16 (by decide) s
theorem sX_isKind (d : Nat) (x : Int32) (s : zS) : zcall zMs skX (d + 1) 121 [.inl x] s = some (some (.inl (zBp (zIn x 4))), s) := by
  rw [aX_X_isKind]
  exact sX_lim x 4 4 (by decide) s
theorem sX_isGeneric (d : Nat) (x : Int32) (s : zS) : zcall zMs skX (d + 1) 123 [.inl x] s = some (some (.inl (zBp (zIn x 8))), s) := by
  rw [aX_X_isGeneric]
  exact sX_lim x 8 8 (by decide) s
theorem sX_isSort (d : Nat) (x : Int32) (s : zS) : zcall zMs skX (d + 1) 124 [.inl x] s = some (some (.inl (zBp (zIn x 4))), s) := by
  rw [aX_X_isSort]
  exact sX_lim x 4 4 (by decide) s
theorem sX_hasObject {n : Nat} (d : Nat) (x : Int32) (s : zS) (h : zg s 2 0 = nI n) (hn : n ≤ 16) : zcall zMs skX (d + 1) 60 [.inr (.inr 2), .inl x] s = some (some (.inl (zBp (zIn x n))), s) := by
  rw [aX_W_hasObject]
  exact sX_lim x (zg s 2 0) n (by rw [h, nI_toInt (by omega)]) s
/-- a refusal -/
theorem sX_refuse (d k : Nat) (s : zS) (h1 : 1 ≤ k) (h2 : k ≤ 7) : zcall zMs skX (d + 1) 117 [.inr (.inr 0), .inl (-nI k)] s = some (some (.inl (-nI k)), zs s 44 k (zg s 44 k + 1)) := by
  have hk : k = 1 ∨ k = 2 ∨ k = 3 ∨ k = 4 ∨ k = 5 ∨ k = 6 ∨ k = 7 := by omega
  rcases hk with rfl | rfl | rfl | rfl | rfl | rfl | rfl <;> (rw [aX_X_refuse]; rfl)
theorem sM_no (d k : Nat) (s : zS) (h1 : 1 ≤ k) (h2 : k ≤ 7) : zcall zMs skM (d + 1) 126 [.inr (.inr 0), .inl (-nI k)] s = some (some (.inl (-nI k)), zs s 15 k (zg s 15 k + 1)) := by
  have hk : k = 1 ∨ k = 2 ∨ k = 3 ∨ k = 4 ∨ k = 5 ∨ k = 6 ∨ k = 7 := by omega
  rcases hk with rfl | rfl | rfl | rfl | rfl | rfl | rfl <;> (rw [aM_M_no]; rfl)
theorem sX_refuseByTen (d k : Nat) (s : zS) (h1 : 1 ≤ k) (h2 : k ≤ 7) : zcall zMs skX (d + 2) 118 [.inr (.inr 0), .inl (-nI k)] s = some (some (.inl (-nI k - 10)), zs s 44 k (zg s 44 k + 1)) := by
  rw [aX_X_refuseByTen]
  unfold bX_X_refuseByTen_0
  rw [sX_refuse d k s h1 h2, zcI_some]
theorem sM_no10 (d k : Nat) (s : zS) (h1 : 1 ≤ k) (h2 : k ≤ 7) : zcall zMs skM (d + 2) 127 [.inr (.inr 0), .inl (-nI k)] s = some (some (.inl (-nI k - 10)), zs s 15 k (zg s 15 k + 1)) := by
  rw [aM_M_no10]
  unfold bM_M_no10_0
  rw [sM_no d k s h1 h2, zcI_some]
/-- a refusal on both sides keeps the relation -/
theorem aRel_refuse {s t : zS} (k : Nat) (h : aRel s t) : aRel (zs s 44 k (zg s 44 k + 1)) (zs t 15 k (zg t 15 k + 1)) := by
  obtain ⟨W, h1, h2, h3, h4, h5, h6⟩ := h
  obtain ⟨r1, r2, r3, r4, r5⟩ := h5
  refine ⟨W, h1, h2, h3, h4, ⟨fun j hj => ?_, r2, r3, r4, r5⟩, h6⟩
  simp only [zg_zs, if_true]
  by_cases hjk : j = k
  · subst hjk
    rw [if_pos rfl, if_pos rfl, r1 j hj]
  · rw [if_neg hjk, if_neg hjk]
    exact r1 j hj
