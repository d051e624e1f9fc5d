/-! THE CLASS'S RUNNER, step by step: what it holds, its small methods -/
theorem nmul4 (k : Nat) : nI k * (4 : Int32) = nI (k * 4) := by
  rw [show (4 : Int32) = nI 4 from rfl, pk_mul]
theorem aX_fr {s s' : zS} {W : aW} (h : ∀ p, 2 ≤ p → p ≤ 11 → ∀ i, zg s' p i = zg s p i) (hX : aX 2 s W) : aX 2 s' W := by
  unfold aX at hX ⊢
  simp only [h 2 (by decide) (by decide), h (2 + 1) (by decide) (by decide), h (2 + 2) (by decide) (by decide), h (2 + 3) (by decide) (by decide), h (2 + 4) (by decide) (by decide), h (2 + 5) (by decide) (by decide), h (2 + 6) (by decide) (by decide), h (2 + 7) (by decide) (by decide), h (2 + 8) (by decide) (by decide), h (2 + 9) (by decide) (by decide)]
  exact hX
def cQ (W : aW) (o k0 : Nat) (s0 s : zS) (e : eT) : Prop :=
  aX 2 s (eSlf W o e.1) ∧ zg s 1 4 = nI e.2.1 ∧ zg s 1 3 = nI (k0 + e.2.2.length) ∧ (∀ i, i < 30 → zg s 17 i = if k0 ≤ i ∧ i < k0 + e.2.2.length then nI (e.2.2.getD (i - k0) 0) else zg s0 17 i) ∧ zg s 1 7 = nI o ∧ (∀ p, p ≠ 1 → p ≠ 8 → p ≠ 9 → p ≠ 10 → p ≠ 17 → p ≠ 18 → ∀ i, zg s p i = zg s0 p i) ∧ (∀ p i, zgl s p i = zgl s0 p i)
def cA (W : aW) (s0 : zS) (A : Nat → List Nat) : Prop := (∀ c, c < 4 → zg s0 13 c = nI (A c).length ∧ (A c).length ≤ 32 ∧ ∀ i w, (A c)[i]? = some w → zg s0 14 (c * 32 + i) = nI w ∧ w < aWn W) ∧ A 5 = []
theorem cQ_fr {W : aW} {o k0 : Nat} {s0 s s' : zS} {e : eT} (h1 : ∀ p, p ≠ 1 → p ≠ 18 → ∀ i, zg s' p i = zg s p i) (hl : ∀ p i, zgl s' p i = zgl s p i) (h3 : zg s' 1 3 = zg s 1 3) (h4 : zg s' 1 4 = zg s 1 4) (h7 : zg s' 1 7 = zg s 1 7) (h : cQ W o k0 s0 s e) : cQ W o k0 s0 s' e := by
  obtain ⟨q1, q2, q3, q4, q5, q6, q7⟩ := h
  refine ⟨aX_fr (fun p h2 h11 i => h1 p (by omega) (by omega) i) q1, h4.trans q2, h3.trans q3, fun i hi => (h1 17 (by decide) (by decide) i).trans (q4 i hi), h7.trans q5, fun p a b c d f g i => (h1 p a g i).trans (q6 p a b c d f g i), fun p i => (hl p i).trans (q7 p i)⟩
abbrev cFm : Type := Int32 × Int32 × Int32 × Int32
def cFr (s : zS) : List cFm → Prop
  | [] => True
  | q :: F => zg s 18 (F.length * 4) = q.1 ∧ zg s 18 (F.length * 4 + 1) = q.2.1 ∧ zg s 18 (F.length * 4 + 2) = q.2.2.1 ∧ zg s 18 (F.length * 4 + 3) = q.2.2.2 ∧ cFr s F
theorem cFr_congr {s s' : zS} : ∀ (F : List cFm), (∀ i, i < F.length * 4 → zg s' 18 i = zg s 18 i) → cFr s F → cFr s' F
  | [], _, _ => trivial
  | q :: F, h, hF => by
    obtain ⟨h0, h1, h2, h3, h4⟩ := hF
    simp only [List.length_cons] at h
    exact ⟨(h _ (by omega)).trans h0, (h _ (by omega)).trans h1, (h _ (by omega)).trans h2, (h _ (by omega)).trans h3, cFr_congr F (fun i hi => h i (by omega)) h4⟩
def cF (s : zS) (F : List cFm) : Prop := zg s 1 14 = nI F.length ∧ cFr s F ∧ F.length ≤ 201
theorem cF_fr {s s' : zS} {F : List cFm} (h : ∀ i, zg s' 18 i = zg s 18 i) (h14 : zg s' 1 14 = zg s 1 14) (hF : cF s F) : cF s' F :=
  ⟨h14.trans hF.1, cFr_congr F (fun i _ => h i) hF.2.1, hF.2.2⟩
def uCome (s : zS) (c sl ix x : Int32) : zS := zs (zs (zs (zs (zs s 1 8 c) 1 9 sl) 1 10 ix) 1 5 x) 1 6 0
def uGive (s : zS) (v : Int32) : zS := zs (zs s 1 5 v) 1 6 2
def uLeave (s : zS) (D : Nat) (q : cFm) : zS := zs (zs (zs (zs (zs s 18 (D * 4) q.1) 18 (D * 4 + 1) q.2.1) 18 (D * 4 + 2) q.2.2.1) 18 (D * 4 + 3) q.2.2.2) 1 14 (nI (D + 1))
def uCm (s : zS) (c sl ix : Nat) (x : Int32) : Prop := zg s 1 6 = 0 ∧ zg s 1 8 = nI c ∧ zg s 1 9 = nI sl ∧ zg s 1 10 = nI ix ∧ zg s 1 5 = x
def uRn (s : zS) (c sl ix : Nat) (f k x : Int32) : Prop := zg s 1 6 = 1 ∧ zg s 1 8 = nI c ∧ zg s 1 9 = nI sl ∧ zg s 1 10 = nI ix ∧ zg s 1 5 = x ∧ zg s 1 11 = f ∧ zg s 1 12 = k
theorem zgz_ne {s : zS} {p i q j : Nat} {v : Int32} (h : q ≠ p) : zg (zs s p i v) q j = zg s q j := by rw [zg_zs, if_neg h]
theorem zgz_nj {s : zS} {p i j : Nat} {v : Int32} (h : j ≠ i) : zg (zs s p i v) p j = zg s p j := by rw [zg_zs, if_pos rfl, if_neg h]
theorem zgz_eq {s : zS} {p i : Nat} {v : Int32} : zg (zs s p i v) p i = v := by rw [zg_zs, if_pos rfl, if_pos rfl]
theorem uCome_o (s : zS) (c sl ix x : Int32) (p i : Nat) (hp : p ≠ 1) : zg (uCome s c sl ix x) p i = zg s p i := by
  unfold uCome
  rw [zgz_ne hp, zgz_ne hp, zgz_ne hp, zgz_ne hp, zgz_ne hp]
theorem uGive_o (s : zS) (v : Int32) (p i : Nat) (hp : p ≠ 1) : zg (uGive s v) p i = zg s p i := by
  unfold uGive
  rw [zgz_ne hp, zgz_ne hp]
theorem uLeave_o (s : zS) (D : Nat) (q : cFm) (p i : Nat) (hp : p ≠ 1) (hp2 : p ≠ 18) : zg (uLeave s D q) p i = zg s p i := by
  unfold uLeave
  rw [zgz_ne hp, zgz_ne hp2, zgz_ne hp2, zgz_ne hp2, zgz_ne hp2]
theorem uCome_Q {W : aW} {o k0 : Nat} {s0 s : zS} {e : eT} (c sl ix x : Int32) (h : cQ W o k0 s0 s e) : cQ W o k0 s0 (uCome s c sl ix x) e :=
  cQ_fr (fun p hp _ i => uCome_o s c sl ix x p i hp) (fun _ _ => rfl) rfl rfl rfl h
theorem uGive_Q {W : aW} {o k0 : Nat} {s0 s : zS} {e : eT} (v : Int32) (h : cQ W o k0 s0 s e) : cQ W o k0 s0 (uGive s v) e :=
  cQ_fr (fun p hp _ i => uGive_o s v p i hp) (fun _ _ => rfl) rfl rfl rfl h
theorem uLeave_Q {W : aW} {o k0 : Nat} {s0 s : zS} {e : eT} (D : Nat) (q : cFm) (h : cQ W o k0 s0 s e) : cQ W o k0 s0 (uLeave s D q) e :=
  cQ_fr (fun p hp h18 i => uLeave_o s D q p i hp h18) (fun _ _ => rfl) rfl rfl rfl h
theorem u14_Q {W : aW} {o k0 : Nat} {s0 s : zS} {e : eT} (j : Nat) (v : Int32) (h3 : j ≠ 3) (h4 : j ≠ 4) (h7 : j ≠ 7) (h : cQ W o k0 s0 s e) : cQ W o k0 s0 (zs s 1 j v) e :=
  cQ_fr (fun p hp _ i => zgz_ne hp) (fun _ _ => rfl) (zgz_nj (Ne.symm h3)) (zgz_nj (Ne.symm h4)) (zgz_nj (Ne.symm h7)) h
theorem u18_Q {W : aW} {o k0 : Nat} {s0 s : zS} {e : eT} (j : Nat) (v : Int32) (h : cQ W o k0 s0 s e) : cQ W o k0 s0 (zs s 18 j v) e :=
  cQ_fr (fun p _ hp i => zgz_ne hp) (fun _ _ => rfl) rfl rfl rfl h
theorem uCome_F {s : zS} {F : List cFm} (c sl ix x : Int32) (h : cF s F) : cF (uCome s c sl ix x) F :=
  cF_fr (fun i => uCome_o s c sl ix x 18 i (by decide)) rfl h
theorem uGive_F {s : zS} {F : List cFm} (v : Int32) (h : cF s F) : cF (uGive s v) F :=
  cF_fr (fun i => uGive_o s v 18 i (by decide)) rfl h
theorem u1_F {s : zS} {F : List cFm} (j : Nat) (v : Int32) (hj : j ≠ 14) (h : cF s F) : cF (zs s 1 j v) F :=
  cF_fr (fun i => zgz_ne (by decide)) (zgz_nj (Ne.symm hj)) h
theorem uPop_F {s : zS} {q : cFm} {F : List cFm} (h : cF s (q :: F)) : cF (zs s 1 14 (nI F.length)) F :=
  ⟨zgz_eq, cFr_congr F (fun i _ => zgz_ne (by decide)) h.2.1.2.2.2.2, by have := h.2.2; simp only [List.length_cons] at this; omega⟩
theorem uLeave_F {s : zS} {F : List cFm} (q : cFm) (hl : F.length ≤ 200) (h : cF s F) : cF (uLeave s F.length q) (q :: F) := by
  refine ⟨zgz_eq, ⟨?_, ?_, ?_, ?_, ?_⟩, by simp only [List.length_cons]; omega⟩
  · unfold uLeave
    rw [zgz_ne (by decide), zgz_nj (by omega), zgz_nj (by omega), zgz_nj (by omega), zgz_eq]
  · unfold uLeave
    rw [zgz_ne (by decide), zgz_nj (by omega), zgz_nj (by omega), zgz_eq]
  · unfold uLeave
    rw [zgz_ne (by decide), zgz_nj (by omega), zgz_eq]
  · unfold uLeave
    rw [zgz_ne (by decide), zgz_eq]
  · refine cFr_congr F (fun i hi => ?_) h.2.1
    unfold uLeave
    rw [zgz_ne (by decide), zgz_nj (by omega), zgz_nj (by omega), zgz_nj (by omega), zgz_nj (by omega)]
theorem u18_F {s : zS} {q : cFm} {F : List cFm} (j : Nat) (v : Int32) (hj : j < 4) (h : cF s (q :: F)) : cF (zs s 18 (F.length * 4 + j) v) ((if j = 0 then v else q.1, if j = 1 then v else q.2.1, if j = 2 then v else q.2.2.1, if j = 3 then v else q.2.2.2) :: F) := by
  obtain ⟨h1, ⟨g0, g1, g2, g3, g4⟩, h3⟩ := h
  have hc : ∀ i, zg (zs s 18 (F.length * 4 + j) v) 18 (F.length * 4 + i) = if i = j then v else zg s 18 (F.length * 4 + i) := by
    intro i
    rw [zg_zs, if_pos rfl]
    by_cases hi : i = j
    · rw [if_pos (by rw [hi]), if_pos hi]
    · rw [if_neg (by omega), if_neg hi]
  refine ⟨h1, ⟨?_, ?_, ?_, ?_, cFr_congr F (fun i hi => zgz_nj (by omega)) g4⟩, h3⟩
  · have := hc 0
    rw [Nat.add_zero] at this
    rw [this, g0]
    by_cases h : j = 0
    · rw [if_pos h.symm, if_pos h]
    · rw [if_neg (Ne.symm h), if_neg h]
  · rw [hc 1, g1]
    by_cases h : j = 1
    · rw [if_pos h.symm, if_pos h]
    · rw [if_neg (Ne.symm h), if_neg h]
  · rw [hc 2, g2]
    by_cases h : j = 2
    · rw [if_pos h.symm, if_pos h]
    · rw [if_neg (Ne.symm h), if_neg h]
  · rw [hc 3, g3]
    by_cases h : j = 3
    · rw [if_pos h.symm, if_pos h]
    · rw [if_neg (Ne.symm h), if_neg h]
theorem sU_come (d : Nat) (c sl ix x : Int32) (s : zS) : zcall zMs skX (d + 1) 35 [.inr (.inr 1), .inl c, .inl sl, .inl ix, .inl x] s = some (none, uCome s c sl ix x) := by
  rw [aX_U_comeNextTo]; rfl
theorem sU_give (d : Nat) (v : Int32) (s : zS) : zcall zMs skX (d + 1) 36 [.inr (.inr 1), .inl v] s = some (none, uGive s v) := by
  rw [aX_U_give]; rfl
theorem sU_leave (d D : Nat) (a b c f : Int32) (s : zS) (h : zg s 1 14 = nI D) (hD : D ≤ 200) : zcall zMs skX (d + 1) 43 [.inr (.inr 1), .inl a, .inl b, .inl c, .inl f] s = some (none, uLeave s D (a, b, c, f)) := by
  rw [aX_U_leave]
  unfold bX_U_leave_0
  rw [h, if_neg (show ¬ (201 : Int32) ≤ nI D from nI_ge (show D < 201 by omega) (by decide))]
  simp only [nmul4, nadd1, nadd2, nadd3, zin_nI (show D * 4 < 804 by omega) (show 804 < 2 ^ 31 by decide), zin_nI (show D * 4 + 1 < 804 by omega) (show 804 < 2 ^ 31 by decide), zin_nI (show D * 4 + 2 < 804 by omega) (show 804 < 2 ^ 31 by decide), zin_nI (show D * 4 + 3 < 804 by omega) (show 804 < 2 ^ 31 by decide), nI_clamp (show D * 4 < 2 ^ 31 by omega), nI_clamp (show D * 4 + 1 < 2 ^ 31 by omega), nI_clamp (show D * 4 + 2 < 2 ^ 31 by omega), nI_clamp (show D * 4 + 3 < 2 ^ 31 by omega)]
  rfl
def uStart (s : zS) (r : Nat) (f k : Int32) : zS := zs (zs (zs (zs s 1 4 (nI (r + 1))) 1 11 f) 1 12 k) 1 6 1
theorem sU_start (d r : Nat) (f k : Int32) (s : zS) (h : zg s 1 4 = nI r) (hr : r < 200) : zcall zMs skX (d + 1) 40 [.inr (.inr 1), .inl f, .inl k] s = some (none, uStart s r f k) := by
  rw [aX_U_startMethod]
  unfold bX_U_startMethod_0
  rw [h, if_pos (show nI r < (200 : Int32) from nI_lt (show r < 200 from hr) (by decide)), nI_1]
  rfl
theorem sU_startEnd (d r : Nat) (f k : Int32) (s : zS) (h : zg s 1 4 = nI r) (hr : 200 ≤ r) (hr2 : r ≤ 1000) : zcall zMs skX (d + 1) 40 [.inr (.inr 1), .inl f, .inl k] s = some (none, zs s 1 6 4) := by
  rw [aX_U_startMethod]
  unfold bX_U_startMethod_0
  rw [h, if_neg (show ¬ nI r < (200 : Int32) from nI_nlt (show 200 ≤ r from hr) (by omega))]
/-! takeStep by its state -/
theorem tS_slot {d : Nat} {s s1 : zS} (h6 : zg s 1 6 = 0) (h8 : zg s 1 8 = 4) (h : zcall zMs skX d 37 [.inr (.inr 1)] s = some (none, s1)) : zcall zMs skX (d + 1) 34 [.inr (.inr 1)] s = some (some (.inl 1), s1) := by
  rw [aX_U_takeStep]
  unfold bX_U_takeStep_0
  rw [h6, if_neg (show ¬ ¬ (0 : Int32) = 0 by decide), h8, if_neg (show ¬ ¬ (4 : Int32) = 4 by decide), h, zcV_some, zbo_1]
theorem tS_way {d : Nat} {s s1 : zS} (h6 : zg s 1 6 = 0) (h8 : ¬ zg s 1 8 = 4) (h : zcall zMs skX d 38 [.inr (.inr 1)] s = some (none, s1)) : zcall zMs skX (d + 1) 34 [.inr (.inr 1)] s = some (some (.inl 1), s1) := by
  rw [aX_U_takeStep]
  unfold bX_U_takeStep_0
  rw [h6, if_neg (show ¬ ¬ (0 : Int32) = 0 by decide), if_pos h8, h, zcV_some, zbo_1]
theorem tS_run {d : Nat} {s s1 : zS} (h6 : zg s 1 6 = 1) (h : zcall zMs skX d 41 [.inr (.inr 1)] s = some (none, s1)) : zcall zMs skX (d + 1) 34 [.inr (.inr 1)] s = some (some (.inl 1), s1) := by
  rw [aX_U_takeStep]
  unfold bX_U_takeStep_0
  rw [h6, if_pos (show ¬ (1 : Int32) = 0 by decide), if_neg (show ¬ ¬ (1 : Int32) = 1 by decide), h, zcV_some, zbo_1]
theorem tS_give {d : Nat} {s s1 : zS} (h6 : zg s 1 6 = 2) (h14 : ¬ zg s 1 14 = 0) (h : zcall zMs skX d 44 [.inr (.inr 1)] s = some (none, s1)) : zcall zMs skX (d + 1) 34 [.inr (.inr 1)] s = some (some (.inl 1), s1) := by
  rw [aX_U_takeStep]
  unfold bX_U_takeStep_0
  rw [h6, if_pos (show ¬ (2 : Int32) = 0 by decide), if_pos (show ¬ (2 : Int32) = 1 by decide), if_neg (show ¬ (2 : Int32) = 4 by decide), if_pos h14, if_neg (show ¬ ¬ (2 : Int32) = 2 by decide), h, zcV_some, zbo_1]
theorem tS_fail {d : Nat} {s s1 : zS} (h6 : zg s 1 6 = 3) (h14 : ¬ zg s 1 14 = 0) (h : zcall zMs skX d 46 [.inr (.inr 1)] s = some (none, s1)) : zcall zMs skX (d + 1) 34 [.inr (.inr 1)] s = some (some (.inl 1), s1) := by
  rw [aX_U_takeStep]
  unfold bX_U_takeStep_0
  rw [h6, if_pos (show ¬ (3 : Int32) = 0 by decide), if_pos (show ¬ (3 : Int32) = 1 by decide), if_neg (show ¬ (3 : Int32) = 4 by decide), if_pos h14, if_pos (show ¬ (3 : Int32) = 2 by decide), h, zcV_some, zbo_1]
theorem tS_end {d : Nat} {s : zS} (h6 : zg s 1 6 = 4) : zcall zMs skX (d + 1) 34 [.inr (.inr 1)] s = some (some (.inl 0), s) := by
  rw [aX_U_takeStep]
  unfold bX_U_takeStep_0
  rw [h6, if_pos (show ¬ (4 : Int32) = 0 by decide), if_pos (show ¬ (4 : Int32) = 1 by decide), if_pos (show (4 : Int32) = 4 by decide), zbo_0]
theorem tS_stop {d : Nat} {s : zS} (h6 : zg s 1 6 = 2 ∨ zg s 1 6 = 3) (h14 : zg s 1 14 = 0) : zcall zMs skX (d + 1) 34 [.inr (.inr 1)] s = some (some (.inl 0), s) := by
  rw [aX_U_takeStep]
  unfold bX_U_takeStep_0
  rcases h6 with h6 | h6
  · rw [h6, if_pos (show ¬ (2 : Int32) = 0 by decide), if_pos (show ¬ (2 : Int32) = 1 by decide), if_neg (show ¬ (2 : Int32) = 4 by decide), if_neg (fun h => h h14), zbo_0]
  · rw [h6, if_pos (show ¬ (3 : Int32) = 0 by decide), if_pos (show ¬ (3 : Int32) = 1 by decide), if_neg (show ¬ (3 : Int32) = 4 by decide), if_neg (fun h => h h14), zbo_0]
/-! frames: what a giving, a failing makes of the uppermost -/
theorem c14_ne {s : zS} {q : cFm} {F : List cFm} (h : cF s (q :: F)) : ¬ zg s 1 14 = 0 := by
  rw [h.1]
  exact nI_ne0 (by simp) (by have := h.2.2; omega)
theorem c14_m1 {s : zS} {q : cFm} {F : List cFm} (h : cF s (q :: F)) : zg s 1 14 - 1 = nI F.length := by
  rw [h.1, List.length_cons, nI_pred]
theorem c14_len {s : zS} {q : cFm} {F : List cFm} (h : cF s (q :: F)) : F.length ≤ 200 := by
  have := h.2.2
  simp only [List.length_cons] at this
  omega
theorem sU_fail {d : Nat} {s : zS} {q : cFm} {F : List cFm} (h : cF s (q :: F)) (hq : ¬ q.1 = 2) : zcall zMs skX (d + 1) 46 [.inr (.inr 1)] s = some (none, zs s 1 14 (nI F.length)) := by
  have hl := c14_len h
  rw [aX_U_failFrame]
  unfold bX_U_failFrame_0
  simp only [c14_m1 h, nmul4, zin_nI (show F.length * 4 < 804 by omega) (show 804 < 2 ^ 31 by decide), nI_clamp (show F.length * 4 < 2 ^ 31 by omega), h.2.1.1, hq, not_false_eq_true, if_true]
theorem sU_failG {d : Nat} {s : zS} {q : cFm} {F : List cFm} (h : cF s (q :: F)) (hq : q.1 = 2) : zcall zMs skX (d + 2) 46 [.inr (.inr 1)] s = some (none, uGive (zs s 1 14 (nI F.length)) q.2.1) := by
  have hl := c14_len h
  rw [aX_U_failFrame]
  unfold bX_U_failFrame_0
  simp only [c14_m1 h, nmul4, nadd1, zin_nI (show F.length * 4 < 804 by omega) (show 804 < 2 ^ 31 by decide), nI_clamp (show F.length * 4 < 2 ^ 31 by omega), zin_nI (show F.length * 4 + 1 < 804 by omega) (show 804 < 2 ^ 31 by decide), nI_clamp (show F.length * 4 + 1 < 2 ^ 31 by omega), h.2.1.1, h.2.1.2.1, hq, not_true_eq_false, if_false, sU_give, zcV_some]
theorem sU_giveT {d : Nat} {s : zS} {q : cFm} {F : List cFm} (h : cF s (q :: F)) (hq : q.1 = 0) : zcall zMs skX (d + 2) 44 [.inr (.inr 1)] s = some (none, uCome (zs s 1 14 (nI F.length)) q.2.1 q.2.2.1 q.2.2.2 (zg s 1 5)) := by
  have hl := c14_len h
  rw [aX_U_giveToFrame]
  unfold bX_U_giveToFrame_0
  simp only [c14_m1 h, nmul4, nadd1, nadd2, nadd3, zin_nI (show F.length * 4 < 804 by omega) (show 804 < 2 ^ 31 by decide), nI_clamp (show F.length * 4 < 2 ^ 31 by omega), zin_nI (show F.length * 4 + 1 < 804 by omega) (show 804 < 2 ^ 31 by decide), nI_clamp (show F.length * 4 + 1 < 2 ^ 31 by omega), zin_nI (show F.length * 4 + 2 < 804 by omega) (show 804 < 2 ^ 31 by decide), nI_clamp (show F.length * 4 + 2 < 2 ^ 31 by omega), zin_nI (show F.length * 4 + 3 < 804 by omega) (show 804 < 2 ^ 31 by decide), nI_clamp (show F.length * 4 + 3 < 2 ^ 31 by omega), h.2.1.1, h.2.1.2.1, h.2.1.2.2.1, h.2.1.2.2.2.1, hq, if_true, sU_come, zcV_some]
theorem sU_giveS {d : Nat} {s : zS} {q : cFm} {F : List cFm} (h : cF s (q :: F)) (hq : q.1 = 1) : zcall zMs skX (d + 2) 44 [.inr (.inr 1)] s = some (none, uGive (zs s 1 14 (nI F.length)) (q.2.1 + zg s 1 5)) := by
  have hl := c14_len h
  rw [aX_U_giveToFrame]
  unfold bX_U_giveToFrame_0
  simp only [c14_m1 h, nmul4, nadd1, zin_nI (show F.length * 4 < 804 by omega) (show 804 < 2 ^ 31 by decide), nI_clamp (show F.length * 4 < 2 ^ 31 by omega), zin_nI (show F.length * 4 + 1 < 804 by omega) (show 804 < 2 ^ 31 by decide), nI_clamp (show F.length * 4 + 1 < 2 ^ 31 by omega), h.2.1.1, h.2.1.2.1, hq, show ((1 : Int32) = (0 : Int32)) ↔ False by decide, show ((1 : Int32) = (0 : Int32) + 1) ↔ True by decide, if_false, if_true, sU_give, zcV_some]
theorem sU_giveG {d : Nat} {s : zS} {q : cFm} {F : List cFm} (h : cF s (q :: F)) (hq : q.1 = 2) : zcall zMs skX (d + 1) 44 [.inr (.inr 1)] s = some (none, zs s 1 14 (nI F.length)) := by
  have hl := c14_len h
  rw [aX_U_giveToFrame]
  unfold bX_U_giveToFrame_0
  simp only [c14_m1 h, nmul4, zin_nI (show F.length * 4 < 804 by omega) (show 804 < 2 ^ 31 by decide), nI_clamp (show F.length * 4 < 2 ^ 31 by omega), h.2.1.1, hq, show ((2 : Int32) = (0 : Int32)) ↔ False by decide, show ((2 : Int32) = (0 : Int32) + 1) ↔ False by decide, show ((2 : Int32) = (0 : Int32) + 1 + 1) ↔ True by decide, if_false, if_true]
