/-! THE CORE's frame; the steps of METHODS -/
theorem sU_goBef {d : Nat} {s : zS} {F : List cFm} {x t : Int32} {i n : Nat} (h : cF s ((3, x, t, nI i) :: F)) (ht : ¬ t = 2) (hA : zg s 13 1 = nI n) (hn : n ≤ 32) (hi : i < n) : zcall zMs skX (d + 2) 45 [.inr (.inr 1)] s = some (none, uCome (zs s 18 (F.length * 4 + 3) (nI (i + 1))) 1 0 (nI i) x) := by
  have hl := c14_len h
  obtain ⟨-, ⟨-, g1, g2, g3, -⟩, -⟩ := id h
  rw [aX_U_goOnInCore]
  unfold bX_U_goOnInCore_0
  simp only [c14_m1 h, nmul4, nadd3, nadd2, zin_nI (show F.length * 4 + 3 < 804 by omega) (show 804 < 2 ^ 31 by decide), zin_nI (show F.length * 4 + 2 < 804 by omega) (show 804 < 2 ^ 31 by decide), nI_clamp (show F.length * 4 + 2 < 2 ^ 31 by omega), nI_clamp (show F.length * 4 + 3 < 2 ^ 31 by omega), g2, g3, ht, not_false_eq_true, if_true]
  rw [hX_U_goOnInCore_60 _ 19998]
  unfold bX_U_goOnInCore_60
  rw [hA, if_neg (nI_ge hi (by omega)), hX_U_goOnInCore_67 _ 19997]
  unfold bX_U_goOnInCore_67
  simp only [nadd3, nadd1, zin_nI (show F.length * 4 + 3 < 804 by omega) (show 804 < 2 ^ 31 by decide), zin_nI (show F.length * 4 + 1 < 804 by omega) (show 804 < 2 ^ 31 by decide), nI_clamp (show F.length * 4 + 1 < 2 ^ 31 by omega), nI_clamp (show F.length * 4 + 3 < 2 ^ 31 by omega), zgz_nj (show F.length * 4 + 1 ≠ F.length * 4 + 3 by omega), g1, sU_come, zcV_some]
theorem sU_goMain {d : Nat} {s : zS} {F : List cFm} {x t : Int32} {i n : Nat} (h : cF s ((3, x, t, nI i) :: F)) (ht : ¬ t = 2) (hA : zg s 13 1 = nI n) (hn : n ≤ 32) (hi : i = n) : zcall zMs skX (d + 2) 45 [.inr (.inr 1)] s = some (none, uCome (zs s 18 (F.length * 4 + 2) 0) 0 0 0 x) := by
  have hl := c14_len h
  obtain ⟨-, ⟨-, g1, g2, g3, -⟩, -⟩ := id h
  rw [aX_U_goOnInCore]
  unfold bX_U_goOnInCore_0
  simp only [c14_m1 h, nmul4, nadd3, nadd2, zin_nI (show F.length * 4 + 3 < 804 by omega) (show 804 < 2 ^ 31 by decide), zin_nI (show F.length * 4 + 2 < 804 by omega) (show 804 < 2 ^ 31 by decide), nI_clamp (show F.length * 4 + 2 < 2 ^ 31 by omega), nI_clamp (show F.length * 4 + 3 < 2 ^ 31 by omega), g2, g3, ht, not_false_eq_true, if_true]
  rw [hX_U_goOnInCore_60 _ 19998]
  unfold bX_U_goOnInCore_60
  rw [hA, if_pos (nI_le (by omega) (by omega)), hX_U_goOnInCore_88 _ 19997]
  unfold bX_U_goOnInCore_88
  simp only [nadd2, nadd1, zin_nI (show F.length * 4 + 2 < 804 by omega) (show 804 < 2 ^ 31 by decide), zin_nI (show F.length * 4 + 1 < 804 by omega) (show 804 < 2 ^ 31 by decide), nI_clamp (show F.length * 4 + 1 < 2 ^ 31 by omega), nI_clamp (show F.length * 4 + 2 < 2 ^ 31 by omega), zgz_nj (show F.length * 4 + 1 ≠ F.length * 4 + 2 by omega), g1, sU_come, zcV_some]
theorem sU_goAft {d : Nat} {s : zS} {F : List cFm} {v : Int32} {m : Nat} (h : cF s ((3, v, 2, nI m) :: F)) (hm : m ≤ 32) : zcall zMs skX (d + 2) 45 [.inr (.inr 1)] s = some (none, uCome (zs s 18 (F.length * 4 + 3) (nI m - 1)) 2 0 (nI m) v) := by
  have hl := c14_len h
  obtain ⟨-, ⟨-, g1, g2, g3, -⟩, -⟩ := id h
  rw [aX_U_goOnInCore]
  unfold bX_U_goOnInCore_0
  simp only [c14_m1 h, nmul4, nadd3, nadd2, nadd1, zin_nI (show F.length * 4 + 3 < 804 by omega) (show 804 < 2 ^ 31 by decide), zin_nI (show F.length * 4 + 2 < 804 by omega) (show 804 < 2 ^ 31 by decide), nI_clamp (show F.length * 4 + 2 < 2 ^ 31 by omega), nI_clamp (show F.length * 4 + 3 < 2 ^ 31 by omega), zin_nI (show F.length * 4 + 1 < 804 by omega) (show 804 < 2 ^ 31 by decide), nI_clamp (show F.length * 4 + 1 < 2 ^ 31 by omega), zgz_nj (show F.length * 4 + 1 ≠ F.length * 4 + 3 by omega), g1, g2, g3, not_true_eq_false, if_false, nI_pos' (show m < 2 ^ 31 by omega), if_true, sU_come, zcV_some]
theorem sU_goEnd {d : Nat} {s : zS} {F : List cFm} {v : Int32} (h : cF s ((3, v, 2, nI 0 - 1) :: F)) : zcall zMs skX (d + 2) 45 [.inr (.inr 1)] s = some (none, uGive (zs s 1 14 (nI F.length)) v) := by
  have hl := c14_len h
  obtain ⟨-, ⟨-, g1, g2, g3, -⟩, -⟩ := id h
  rw [aX_U_goOnInCore]
  unfold bX_U_goOnInCore_0
  simp only [c14_m1 h, nmul4, nadd3, nadd2, nadd1, zin_nI (show F.length * 4 + 3 < 804 by omega) (show 804 < 2 ^ 31 by decide), zin_nI (show F.length * 4 + 2 < 804 by omega) (show 804 < 2 ^ 31 by decide), nI_clamp (show F.length * 4 + 2 < 2 ^ 31 by omega), nI_clamp (show F.length * 4 + 3 < 2 ^ 31 by omega), zin_nI (show F.length * 4 + 1 < 804 by omega) (show 804 < 2 ^ 31 by decide), nI_clamp (show F.length * 4 + 1 < 2 ^ 31 by omega), g1, g2, g3, not_true_eq_false, if_false, show ((0 : Int32) ≤ nI 0 - 1) ↔ False by decide, sU_give, zcV_some]
theorem sU_giveC {d : Nat} {s s1 : zS} {q : cFm} {F : List cFm} (h : cF s (q :: F)) (hq : q.1 = 3) (ht : ¬ q.2.2.1 = 0) (h1 : zcall zMs skX d 45 [.inr (.inr 1)] s = some (none, s1)) : zcall zMs skX (d + 1) 44 [.inr (.inr 1)] s = some (none, s1) := by
  have hl := c14_len h
  rw [aX_U_giveToFrame]
  unfold bX_U_giveToFrame_0
  simp only [c14_m1 h, nmul4, nadd2, zin_nI (show F.length * 4 < 804 by omega) (show 804 < 2 ^ 31 by decide), nI_clamp (show F.length * 4 < 2 ^ 31 by omega), zin_nI (show F.length * 4 + 2 < 804 by omega) (show 804 < 2 ^ 31 by decide), nI_clamp (show F.length * 4 + 2 < 2 ^ 31 by omega), h.2.1.1, h.2.1.2.2.1, hq, ht, not_false_eq_true, show ((3 : Int32) = (0 : Int32)) ↔ False by decide, show ((3 : Int32) = (0 : Int32) + 1) ↔ False by decide, show ((3 : Int32) = (0 : Int32) + 1 + 1) ↔ False by decide, if_false, if_true, h1, zcV_some]
def uMain (s : zS) (D : Nat) (v w : Int32) : zS := zs (zs (zs s 18 (D * 4 + 1) v) 18 (D * 4 + 2) 2) 18 (D * 4 + 3) w
theorem sU_giveM {d : Nat} {s s1 : zS} {q : cFm} {F : List cFm} {n : Nat} (h : cF s (q :: F)) (hq : q.1 = 3) (ht : q.2.2.1 = 0) (hA : zg s 13 2 = nI n) (h1 : zcall zMs skX d 45 [.inr (.inr 1)] (uMain s F.length (zg s 1 5) (nI n - 1)) = some (none, s1)) : zcall zMs skX (d + 1) 44 [.inr (.inr 1)] s = some (none, s1) := by
  have hl := c14_len h
  unfold uMain at h1
  rw [aX_U_giveToFrame]
  unfold bX_U_giveToFrame_0
  simp only [c14_m1 h, nmul4, nadd1, nadd2, nadd3, zin_nI (show F.length * 4 < 804 by omega) (show 804 < 2 ^ 31 by decide), nI_clamp (show F.length * 4 < 2 ^ 31 by omega), zin_nI (show F.length * 4 + 1 < 804 by omega) (show 804 < 2 ^ 31 by decide), nI_clamp (show F.length * 4 + 1 < 2 ^ 31 by omega), zin_nI (show F.length * 4 + 2 < 804 by omega) (show 804 < 2 ^ 31 by decide), nI_clamp (show F.length * 4 + 2 < 2 ^ 31 by omega), zin_nI (show F.length * 4 + 3 < 804 by omega) (show 804 < 2 ^ 31 by decide), nI_clamp (show F.length * 4 + 3 < 2 ^ 31 by omega), h.2.1.1, h.2.1.2.2.1, hq, ht, hA, not_true_eq_false, show ((3 : Int32) = (0 : Int32)) ↔ False by decide, show ((3 : Int32) = (0 : Int32) + 1) ↔ False by decide, show ((3 : Int32) = (0 : Int32) + 1 + 1) ↔ False by decide, if_false, h1, zcV_some]
/-- k steps -/
def cSt (d : Nat) : Nat → zS → zS → Prop
  | 0, s, s' => s = s'
  | k + 1, s, s' => ∃ s1, zcall zMs skX (d + 8) 34 [.inr (.inr 1)] s = some (some (.inl 1), s1) ∧ cSt d k s1 s'
theorem cSt_trans {d : Nat} : ∀ {k j : Nat} {s s1 s2 : zS}, cSt d k s s1 → cSt d j s1 s2 → cSt d (k + j) s s2
  | 0, j, s, s1, s2, h, g => by
    have h' : s = s1 := h
    rw [Nat.zero_add, h']
    exact g
  | k + 1, j, s, s1, s2, ⟨u, h1, h2⟩, g => by
    rw [Nat.succ_add_eq_add_succ, Nat.add_succ]
    exact ⟨u, h1, cSt_trans h2 g⟩
/-- from s, with the frames F, the run comes to what r says; b0, b2: bounds of the steps -/
def cR (W : aW) (o k0 : Nat) (s0 : zS) (d : Nat) (F : List cFm) (s : zS) (e : eT) (b0 b2 : Nat) (r : eR) : Prop :=
  ∃ k s', cSt d k s s' ∧ k + 10 * e.2.1 + 3 ≤ 10 * r.2.2.2.1 + (if r.1 = 2 then b2 else b0) ∧ cQ W o k0 s0 s' r.2.2 ∧ zg s' 1 6 = nI (r.1 + 2) ∧ (r.1 = 0 → zg s' 1 5 = r.2.1) ∧ (r.1 ≠ 2 → cF s' F)
theorem cR_mono {W : aW} {o k0 : Nat} {s0 : zS} {d : Nat} {F : List cFm} {s : zS} {e : eT} {b0 b2 : Nat} {r : eR} (B0 B2 : Nat) (h : cR W o k0 s0 d F s e b0 b2 r) (h0 : b0 ≤ B0) (h2 : b2 ≤ B2) : cR W o k0 s0 d F s e B0 B2 r := by
  obtain ⟨k, s', g1, g2, g3⟩ := h
  refine ⟨k, s', g1, ?_, g3⟩
  split at g2 <;> split <;> first
    | omega
    | contradiction
theorem cR_done {W : aW} {o k0 : Nat} {s0 : zS} {d : Nat} {F : List cFm} {s : zS} {e : eT} (j : Nat) (v : Int32) (b0 b2 : Nat) (hQ : cQ W o k0 s0 s e) (h6 : zg s 1 6 = nI (j + 2)) (h5 : j = 0 → zg s 1 5 = v) (hF : j ≠ 2 → cF s F) (h0 : 3 ≤ b0) (h2 : 3 ≤ b2) : cR W o k0 s0 d F s e b0 b2 (j, v, e) := by
  refine ⟨0, s, rfl, ?_, hQ, h6, h5, hF⟩
  show 0 + 10 * e.2.1 + 3 ≤ 10 * e.2.1 + (if j = 2 then b2 else b0)
  split <;> omega
theorem cR_step {W : aW} {o k0 : Nat} {s0 : zS} {d : Nat} {F : List cFm} {s s1 : zS} {e : eT} {b0 b2 : Nat} {r : eR} (h : zcall zMs skX (d + 8) 34 [.inr (.inr 1)] s = some (some (.inl 1), s1)) (g : cR W o k0 s0 d F s1 e b0 b2 r) : cR W o k0 s0 d F s e (b0 + 1) (b2 + 1) r := by
  obtain ⟨k, s', g1, g2, g3⟩ := g
  refine ⟨k + 1, s', ⟨s1, h, g1⟩, ?_, g3⟩
  split at g2 <;> split <;> first
    | omega
    | contradiction
/-- a step that runs a method: the count goes up -/
theorem cR_stepRan {W : aW} {o k0 : Nat} {s0 : zS} {d : Nat} {F : List cFm} {s s1 : zS} {e e1 : eT} {r : eR} (h : zcall zMs skX (d + 8) 34 [.inr (.inr 1)] s = some (some (.inl 1), s1)) (he : e1.2.1 = e.2.1 + 1) (g : cR W o k0 s0 d F s1 e1 9 9 r) : cR W o k0 s0 d F s e 0 0 r := by
  obtain ⟨k, s', g1, g2, g3⟩ := g
  refine ⟨k + 1, s', ⟨s1, h, g1⟩, ?_, g3⟩
  split at g2 <;> split <;> first
    | omega
    | contradiction
theorem cR_bnd {W : aW} {o k0 : Nat} {s0 : zS} {d : Nat} {q : cFm} {F : List cFm} {s : zS} {e : eT} {b0 b2 c0 c2 : Nat} {r : eR} {G : Int32 → eT → eR} (B0 B2 : Nat) (h : cR W o k0 s0 d (q :: F) s e b0 b2 r) (hr : r.1 ≤ 2) (hq : ¬ q.1 = 2) (hG : r.1 = 0 → ∀ s', cQ W o k0 s0 s' r.2.2 → cF s' (q :: F) → zg s' 1 6 = 2 → zg s' 1 5 = r.2.1 → cR W o k0 s0 d F s' r.2.2 c0 c2 (G r.2.1 r.2.2)) (h0 : b0 + c0 ≤ B0 + 3) (h2 : b0 + c2 ≤ B2 + 3) (h1 : b0 + 1 ≤ B0) (h3 : b2 ≤ B2) : cR W o k0 s0 d F s e B0 B2 (eBnd r G) := by
  obtain ⟨k, s', g1, g2, g3, g4, g5, g6⟩ := h
  unfold eBnd
  by_cases c : r.1 = 0
  · rw [if_pos c]
    rw [if_neg (show ¬ r.1 = 2 by omega)] at g2
    obtain ⟨k2, s2, f1, f2, f3⟩ := hG c s' g3 (g6 (by omega)) (by rw [g4, c]; rfl) (g5 c)
    refine ⟨k + k2, s2, cSt_trans g1 f1, ?_, f3⟩
    split at f2 <;> split <;> first
      | omega
      | contradiction
  · rw [if_neg c]
    by_cases c1 : r.1 = 1
    · rw [if_neg (show ¬ r.1 = 2 by omega)] at g2
      have hF := g6 (by omega)
      have h6 : zg s' 1 6 = 3 := by rw [g4, c1]; rfl
      refine ⟨k + 1, zs s' 1 14 (nI F.length), cSt_trans g1 ⟨_, tS_fail h6 (c14_ne hF) (sU_fail hF hq), rfl⟩, ?_, u14_Q 14 _ (by decide) (by decide) (by decide) g3, ?_, fun hz => absurd hz c, fun _ => uPop_F hF⟩
      · rw [if_neg (show ¬ r.1 = 2 by omega)]
        show k + 1 + 10 * e.2.1 + 3 ≤ 10 * r.2.2.2.1 + B0
        omega
      · exact (zgz_nj (by decide)).trans g4
    · have c2 : r.1 = 2 := by omega
      rw [if_pos c2] at g2
      refine ⟨k, s', g1, ?_, g3, g4, fun hz => absurd hz c, fun hz => absurd c2 hz⟩
      rw [if_pos c2]
      show k + 10 * e.2.1 + 3 ≤ 10 * r.2.2.2.1 + B2
      omega
