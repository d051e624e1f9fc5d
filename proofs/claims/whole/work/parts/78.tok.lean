/-! READ: the letters of a row, one by one -/
theorem zDp_40 : ∃ d, zDp = d + 40 := ⟨1460, rfl⟩
def ktX (m : Nat) (T : Nat → Int32) (a : Nat) (s : zS) : Prop := zg s 42 2 = nI m ∧ zg s 42 3 = nI a ∧ ∀ i, i < m → zg s 43 i = T i
def ktM (k m : Nat) (T : Nat → Int32) (a : Nat) (t : zS) : Prop := zg t 0 17 = nI k ∧ zg t 12 k = nI m ∧ (∀ i, i < m → Int64.toInt32 (zgl t 13 (160 * k + i)) = T i) ∧ zg t 0 18 = nI a
def tkS (m : Nat) (T : Nat → Int32) (a : Nat) : Int32 := if a < m then T a else -1
def tkD (m : Nat) (T : Nat → Int32) (a : Nat) : Prop := a < m ∧ 48 ≤ (T a).toInt ∧ (T a).toInt ≤ 57
def tkC (m : Nat) (T : Nat → Int32) (a : Nat) (c : Int32) : Prop := a < m ∧ T a = c
def kFX (s s' : zS) : Prop := (∀ p i, ¬ (p = 42 ∧ (i = 3 ∨ i = 5)) → zg s' p i = zg s p i) ∧ ∀ p i, zgl s' p i = zgl s p i
def kFM (t t' : zS) : Prop := (∀ p i, ¬ (p = 0 ∧ (i = 18 ∨ i = 19 ∨ i = 20)) → zg t' p i = zg t p i) ∧ ∀ p i, zgl t' p i = zgl t p i
theorem kFX_r (s : zS) : kFX s s := ⟨fun _ _ _ => rfl, fun _ _ => rfl⟩
theorem kFM_r (t : zS) : kFM t t := ⟨fun _ _ _ => rfl, fun _ _ => rfl⟩
theorem kFX_t {a b c : zS} (h : kFX a b) (g : kFX b c) : kFX a c := ⟨fun p i e => (g.1 p i e).trans (h.1 p i e), fun p i => (g.2 p i).trans (h.2 p i)⟩
theorem kFM_t {a b c : zS} (h : kFM a b) (g : kFM b c) : kFM a c := ⟨fun p i e => (g.1 p i e).trans (h.1 p i e), fun p i => (g.2 p i).trans (h.2 p i)⟩
theorem kFX_z {s s' : zS} {i : Nat} {v : Int32} (h : kFX s s') (hi : i = 3 ∨ i = 5) : kFX s (zs s' 42 i v) := by
  refine kFX_t h ⟨fun p j e => ?_, fun _ _ => rfl⟩
  by_cases hp : p = 42
  · rw [hp]
    exact zgz_nj (fun c => e ⟨hp, by rw [c]; exact hi⟩)
  · exact zgz_ne hp
theorem kFM_z {t t' : zS} {i : Nat} {v : Int32} (h : kFM t t') (hi : i = 18 ∨ i = 19 ∨ i = 20) : kFM t (zs t' 0 i v) := by
  refine kFM_t h ⟨fun p j e => ?_, fun _ _ => rfl⟩
  by_cases hp : p = 0
  · rw [hp]
    exact zgz_nj (fun c => e ⟨hp, by rw [c]; exact hi⟩)
  · exact zgz_ne hp
theorem ktX_go {m : Nat} {T : Nat → Int32} {a b : Nat} {s s' : zS} (h : ktX m T a s) (f : kFX s s') (e : zg s' 42 3 = nI b) : ktX m T b s' := ⟨(f.1 42 2 (by decide)).trans h.1, e, fun i hi => (f.1 43 i (by omega)).trans (h.2.2 i hi)⟩
theorem ktM_go {k m : Nat} {T : Nat → Int32} {a b : Nat} {t t' : zS} (h : ktM k m T a t) (f : kFM t t') (e : zg t' 0 18 = nI b) : ktM k m T b t' := ⟨(f.1 0 17 (by decide)).trans h.1, (f.1 12 k (by omega)).trans h.2.1, fun i hi => by rw [f.2]; exact h.2.2.1 i hi, e⟩
theorem xk_st {m : Nat} {T : Nat → Int32} {a : Nat} {s : zS} (d : Nat) (c : Int32) (hm : m ≤ 160) (ha : a ≤ m) (h : ktX m T a s) : zcall zMs skX (d + 1) 25 [.inr (.inr 42), .inl c] s = some (some (.inl (zBp (tkC m T a c))), s) := by
  obtain ⟨h1, h2, h3⟩ := h
  rw [aX_D_stands]
  unfold bX_D_stands_0
  rw [h1, h2]
  by_cases hl : a < m
  · rw [if_neg (nI_ge hl (by omega)), zin_nI (show a < 160 by omega) (by decide), nI_clamp (show a < 2 ^ 31 by omega), h3 a hl]
    by_cases hc : T a = c
    · rw [if_neg (show ¬ ¬ T a = c from fun e => e hc), zbo_1, zBp_t ⟨hl, hc⟩]
    · rw [if_pos (show ¬ T a = c from hc), zbo_0, zBp_f (fun e => hc e.2)]
  · rw [if_pos (nI_le (by omega) (by omega)), zbo_0, zBp_f (fun e => hl e.1)]
theorem xk_mf (d : Nat) (x : Int32) (s : zS) : zcall zMs skX (d + 1) 27 [.inr (.inr 42), .inl x] s = some (some (.inl 0), zs s 42 4 x) := by
  rw [aX_D_markFault]
  unfold bX_D_markFault_0
  dsimp only
  rw [zbo_0]
theorem xk_ps {m : Nat} {T : Nat → Int32} {a : Nat} {s : zS} (d : Nat) (c : Int32) (hm : m ≤ 160) (ha : a ≤ m) (h : ktX m T a s) : (tkC m T a c ∧ a + 1 ≤ m ∧ zcall zMs skX (d + 2) 24 [.inr (.inr 42), .inl c] s = some (some (.inl 1), zs s 42 3 (nI (a + 1)))) ∨ (¬ tkC m T a c ∧ zcall zMs skX (d + 2) 24 [.inr (.inr 42), .inl c] s = some (some (.inl 0), zs s 42 4 (nI a))) := by
  by_cases hc : tkC m T a c
  · refine Or.inl ⟨hc, hc.1, ?_⟩
    rw [aX_D_pass]
    unfold bX_D_pass_0
    rw [xk_st d c hm ha h, zcI_some, zBp_t hc, if_pos o1]
    dsimp only
    rw [h.2.1, nI_1, zbo_1]
  · refine Or.inr ⟨hc, ?_⟩
    rw [aX_D_pass]
    unfold bX_D_pass_0
    rw [xk_st d c hm ha h, zcI_some, zBp_f hc, if_neg z0, h.2.1, xk_mf, zcI_some, zbo_0]
theorem xk_dg {m : Nat} {T : Nat → Int32} {a : Nat} {s : zS} (d : Nat) (hm : m ≤ 160) (ha : a ≤ m) (h : ktX m T a s) : zcall zMs skX (d + 1) 26 [.inr (.inr 42)] s = some (some (.inl (zBp (tkD m T a))), s) := by
  obtain ⟨h1, h2, h3⟩ := h
  rw [aX_D_digitStands]
  unfold bX_D_digitStands_0
  rw [h1, h2]
  by_cases hl : a < m
  · rw [if_neg (nI_ge hl (by omega)), zin_nI (show a < 160 by omega) (by decide), zin_nI (show a < 160 by omega) (by decide), nI_clamp (show a < 2 ^ 31 by omega), h3 a hl]
    by_cases h48 : T a < 48
    · rw [if_pos h48, zbo_0, zBp_f]
      rintro ⟨-, e, -⟩
      rw [zlt] at h48
      have : (48 : Int32).toInt = 48 := by decide
      omega
    · rw [if_neg h48]
      by_cases h57 : 57 < T a
      · rw [if_pos h57, zbo_0, zBp_f]
        rintro ⟨-, -, e⟩
        rw [zlt] at h57
        have : (57 : Int32).toInt = 57 := by decide
        omega
      · rw [if_neg h57, zbo_1, zBp_t]
        rw [zlt] at h48 h57
        have e1 : (48 : Int32).toInt = 48 := by decide
        have e2 : (57 : Int32).toInt = 57 := by decide
        exact ⟨hl, by omega, by omega⟩
  · rw [if_pos (nI_le (by omega) (by omega)), zbo_0, zBp_f (fun e => hl e.1)]
theorem mk_sg {k m : Nat} {T : Nat → Int32} {a : Nat} {t : zS} (d : Nat) (hk : k < 8) (hm : m ≤ 160) (ha : a ≤ m) (h : ktM k m T a t) : zcall zMs skM (d + 1) 151 [.inr (.inr 0)] t = some (some (.inl (tkS m T a)), t) := by
  obtain ⟨h1, h2, h3, h4⟩ := h
  rw [aM_M_sign]
  unfold bM_M_sign_0
  rw [h1, zin_nI hk (by decide), nI_clamp (show k < 2 ^ 31 by omega), h2, h4]
  unfold tkS
  by_cases hl : a < m
  · rw [if_neg (nI_ge hl (by omega)), if_pos hl, nlit160', zin_nI (show 160 * k + a < 1280 by omega) (by decide), nI_clamp (show 160 * k + a < 2 ^ 31 by omega), h3 a hl]
  · rw [if_pos (nI_le (by omega) (by omega)), if_neg hl]
theorem tkS_c {m : Nat} {T : Nat → Int32} {a : Nat} {c : Int32} (hc : ¬ (-1 : Int32) = c) : tkS m T a = c ↔ tkC m T a c := by
  unfold tkS tkC
  by_cases hl : a < m
  · rw [if_pos hl]
    exact ⟨fun e => ⟨hl, e⟩, fun e => e.2⟩
  · rw [if_neg hl]
    exact ⟨fun e => absurd e hc, fun e => absurd e.1 hl⟩
theorem tkS_d {m : Nat} {T : Nat → Int32} {a : Nat} : ((48 : Int32).toInt ≤ (tkS m T a).toInt ∧ (tkS m T a).toInt ≤ (57 : Int32).toInt) ↔ tkD m T a := by
  have e1 : (48 : Int32).toInt = 48 := by decide
  have e2 : (57 : Int32).toInt = 57 := by decide
  have e3 : (-1 : Int32).toInt = -1 := by decide
  unfold tkS tkD
  by_cases hl : a < m
  · rw [if_pos hl, e1, e2]
    exact ⟨fun e => ⟨hl, e.1, e.2⟩, fun e => e.2⟩
  · rw [if_neg hl, e1, e2, e3]
    exact ⟨fun e => by omega, fun e => absurd e.1 hl⟩
theorem mk_is {k m : Nat} {T : Nat → Int32} {a : Nat} {t : zS} (d : Nat) (c : Int32) (hc : ¬ (-1 : Int32) = c) (hk : k < 8) (hm : m ≤ 160) (ha : a ≤ m) (h : ktM k m T a t) : (tkC m T a c → zcall zMs skM (d + 2) 152 [.inr (.inr 0), .inl c] t = some (some (.inl 1), zs t 0 18 (nI (a + 1)))) ∧ (¬ tkC m T a c → zcall zMs skM (d + 2) 152 [.inr (.inr 0), .inl c] t = some (some (.inl 0), t)) := by
  refine ⟨fun e => ?_, fun e => ?_⟩
  · rw [aM_M_is]
    unfold bM_M_is_0
    rw [mk_sg d hk hm ha h, zcI_some, if_pos ((tkS_c hc).mpr e)]
    dsimp only
    rw [h.2.2.2, nI_1, zbo_1]
  · rw [aM_M_is]
    unfold bM_M_is_0
    rw [mk_sg d hk hm ha h, zcI_some, if_neg (fun c => e ((tkS_c hc).mp c)), zbo_0]
theorem mk_dg {k m : Nat} {T : Nat → Int32} {a : Nat} {t : zS} (d : Nat) (hk : k < 8) (hm : m ≤ 160) (ha : a ≤ m) (h : ktM k m T a t) : zcall zMs skM (d + 2) 153 [.inr (.inr 0)] t = some (some (.inl (zBp (tkD m T a))), t) := by
  rw [aM_M_isDigit]
  unfold bM_M_isDigit_0
  rw [mk_sg d hk hm ha h, zcI_some, sM_within, zcI_some, zbo_Bp, zB_iff tkS_d]
theorem mk_d2 {k m : Nat} {T : Nat → Int32} {a : Nat} {t : zS} (d : Nat) (x : Int32) (hk : k < 8) (hm : m ≤ 160) (ha : a ≤ m) (h : ktM k m T a t) : (tkD m T a → T a - 48 ≤ x → zcall zMs skM (d + 3) 155 [.inr (.inr 0), .inl x] t = some (some (.inl 1), zs (zs t 0 19 (T a - 48)) 0 18 (nI (a + 1)))) ∧ (¬ (tkD m T a ∧ T a - 48 ≤ x) → zcall zMs skM (d + 3) 155 [.inr (.inr 0), .inl x] t = some (some (.inl 0), t)) := by
  refine ⟨fun e e2 => ?_, fun e => ?_⟩
  · have es : tkS m T a = T a := if_pos e.1
    rw [aM_M_isDigit2]
    unfold bM_M_isDigit2_0
    rw [mk_dg d hk hm ha h, zcI_some, zBp_t e, if_neg o1, mk_sg (d + 1) hk hm ha h, zcI_some, es, if_pos e2, mk_sg (d + 1) hk hm ha h, zcI_some, es]
    dsimp only
    rw [h.2.2.2, nI_1, zbo_1]
  · rw [aM_M_isDigit2]
    unfold bM_M_isDigit2_0
    rw [mk_dg d hk hm ha h, zcI_some]
    by_cases e1 : tkD m T a
    · have es : tkS m T a = T a := if_pos e1.1
      rw [zBp_t e1, if_neg o1, mk_sg (d + 1) hk hm ha h, zcI_some, es, if_neg (fun c => e ⟨e1, c⟩), zbo_0]
    · rw [zBp_f e1, if_pos (show (0 : Int32) = 0 from rfl), zbo_0]
