/-! WAYS that apply: the insertion on both sides -/
def wP (W : aW) (w u : Nat) : Nat := (aWy W w u).toNatClampNeg
def wNr (W : aW) (a w : Nat) : Int32 := aFst (fun x => decide (x = wP W w 1)) (aO W a) 0
def wNs (W : aW) (b w : Nat) : Int32 := aFst (fun x => decide (x = wP W w 2)) (aO W b) 0
def wFr (W : aW) (a b w : Nat) : Int32 := wNr W a w + wNs W b w
def wSb (W : aW) (a b v w : Nat) : Prop := (wFr W a b v = wFr W a b w → wNr W a v < wNr W a w) ∧ (¬ wFr W a b v = wFr W a b w → wFr W a b v < wFr W a b w)
noncomputable def insAt (W : aW) (a b w : Nat) (R : List Nat) : Nat → Nat
  | 0 => 0
  | i + 1 => @ite _ (wSb W a b (R.getD i 0) w) (Classical.propDecidable _) (i + 1) (insAt W a b w R i)
theorem insAt_t {W : aW} {a b w i : Nat} {R : List Nat} (h : wSb W a b (R.getD i 0) w) : insAt W a b w R (i + 1) = i + 1 := if_pos h
theorem insAt_f {W : aW} {a b w i : Nat} {R : List Nat} (h : ¬ wSb W a b (R.getD i 0) w) : insAt W a b w R (i + 1) = insAt W a b w R i := if_neg h
theorem insAt_le {W : aW} {a b w : Nat} {R : List Nat} : ∀ i, insAt W a b w R i ≤ i
  | 0 => Nat.le_refl _
  | i + 1 => by
    by_cases h : wSb W a b (R.getD i 0) w
    · rw [insAt_t h]; exact Nat.le_refl _
    · rw [insAt_f h]; exact Nat.le_succ_of_le (insAt_le i)
def insL (R : List Nat) (w i : Nat) : List Nat := R.take i ++ w :: R.drop i
theorem insL_len {R : List Nat} {w i : Nat} (h : i ≤ R.length) : (insL R w i).length = R.length + 1 := by
  unfold insL
  rw [List.length_append, List.length_cons, List.length_take, List.length_drop]
  omega
theorem insL_get {R : List Nat} {w i j x : Nat} (h : i ≤ R.length) (hx : (insL R w i)[j]? = some x) : (j < i ∧ R[j]? = some x) ∨ (j = i ∧ x = w) ∨ (i < j ∧ R[j - 1]? = some x) := by
  unfold insL at hx
  have hl : (R.take i).length = i := by rw [List.length_take]; omega
  by_cases h1 : j < i
  · rw [List.getElem?_append_left (by omega), List.getElem?_take, if_pos h1] at hx
    exact Or.inl ⟨h1, hx⟩
  · rw [List.getElem?_append_right (by omega), hl] at hx
    by_cases h2 : j = i
    · subst h2
      rw [Nat.sub_self, List.getElem?_cons_zero] at hx
      exact Or.inr (Or.inl ⟨rfl, (Option.some.inj hx).symm⟩)
    · obtain ⟨k, hk⟩ : ∃ k, j - i = k + 1 := ⟨j - i - 1, by omega⟩
      rw [hk, List.getElem?_cons_succ, List.getElem?_drop] at hx
      refine Or.inr (Or.inr ⟨by omega, ?_⟩)
      rw [show j - 1 = i + k by omega]
      exact hx
theorem insL_mem {R : List Nat} {w i x j : Nat} (h : i ≤ R.length) (hx : (insL R w i)[j]? = some x) : x = w ∨ ∃ j' : Nat, R[j']? = some x := by
  rcases insL_get h hx with ⟨-, h⟩ | ⟨-, h⟩ | ⟨-, h⟩
  · exact Or.inr ⟨_, h⟩
  · exact Or.inl h
  · exact Or.inr ⟨_, h⟩
theorem getD_of {R : List Nat} {i x : Nat} (h : R[i]? = some x) : R.getD i 0 = x := by
  rw [List.getD_eq_getElem?_getD, h]
  rfl
theorem sX_sb {W : aW} {a b v w : Nat} (d : Nat) (s : zS) (hv : v < 32) (hw : w < 32) (v1 : zg s 15 v = wFr W a b v) (v2 : zg s 16 v = wNr W a v) (w1 : zg s 15 w = wFr W a b w) (w2 : zg s 16 w = wNr W a w) : zcall zMs skX (d + 1) 2 [.inr (.inr 12), .inl (nI v), .inl (nI w)] s = some (some (.inl (zBp (wSb W a b v w))), s) := by
  rw [aX_A_standsBefore]
  unfold bX_A_standsBefore_0
  rw [zin_nI hv (by decide), zin_nI hw (by decide), nI_clamp (show v < 2 ^ 31 by omega), nI_clamp (show w < 2 ^ 31 by omega), v1, w1, v2, w2]
  by_cases h : wFr W a b v = wFr W a b w
  · rw [if_pos h, zin_nI hv (by decide), zin_nI hw (by decide)]
    by_cases h2 : wNr W a w ≤ wNr W a v
    · rw [if_pos h2, zbo_0, zBp_f]
      intro q
      have := q.1 h
      rw [zlt] at this
      rw [zle] at h2
      omega
    · rw [if_neg h2, zbo_1, zBp_t]
      refine ⟨fun _ => ?_, fun q => absurd h q⟩
      rw [zlt]
      rw [zle] at h2
      omega
  · rw [if_neg h, zin_nI hv (by decide), zin_nI hw (by decide)]
    by_cases h2 : wFr W a b w ≤ wFr W a b v
    · rw [if_pos h2, zbo_0, zBp_f]
      intro q
      have := q.2 h
      rw [zlt] at this
      rw [zle] at h2
      omega
    · rw [if_neg h2, zbo_1, zBp_t]
      refine ⟨fun q => absurd q h, fun _ => ?_⟩
      rw [zlt]
      rw [zle] at h2
      omega
/-- a row of ways in an array of the state, with a hole -/
def hole (f : Nat → Int32) (base : Nat) (R : List Nat) (i : Nat) : Prop := (∀ (j x : Nat), j < i → R[j]? = some x → f (base + j) = nI x) ∧ (∀ (j x : Nat), i ≤ j → R[j]? = some x → f (base + j + 1) = nI x)
theorem hole_fill {f g : Nat → Int32} {base w i : Nat} {R : List Nat} (hi : i ≤ R.length) (h : hole f base R i) (hg : ∀ q, g q = if q = base + i then nI w else f q) : ∀ (j x : Nat), (insL R w i)[j]? = some x → g (base + j) = nI x := by
  intro j x hx
  rcases insL_get hi hx with ⟨h1, h2⟩ | ⟨h1, h2⟩ | ⟨h1, h2⟩
  · rw [hg, if_neg (by omega)]
    exact h.1 j x h1 h2
  · rw [hg, if_pos (by omega), h2]
  · rw [hg, if_neg (by omega)]
    have := h.2 (j - 1) x (by omega) h2
    rw [show base + (j - 1) + 1 = base + j by omega] at this
    exact this
theorem hole_shift {f g : Nat → Int32} {base i : Nat} {R : List Nat} (h : hole f base R (i + 1)) (hg : ∀ q, g q = if q = base + i + 1 then f (base + i) else f q) : hole g base R i := by
  refine ⟨fun j x hj hx => ?_, fun j x hj hx => ?_⟩
  · rw [hg, if_neg (by omega)]
    exact h.1 j x (by omega) hx
  · by_cases hji : j = i
    · subst hji
      rw [hg, if_pos rfl]
      exact h.1 j x (by omega) hx
    · rw [hg, if_neg (by omega)]
      exact h.2 j x (by omega) hx
theorem sX_ins {W : aW} {a b c w : Nat} {R : List Nat} (d : Nat) (hc : c < 4) (hw : w < 32) (hR : R.length < 32) : ∀ (i N : Nat) (s : zS), i ≤ R.length → i < N → hole (zg s 14) (c * 32) R i → zg s 13 c = nI R.length → zg s 15 w = wFr W a b w → zg s 16 w = wNr W a w → (∀ (j x : Nat), R[j]? = some x → x < 32 ∧ zg s 15 x = wFr W a b x ∧ zg s 16 x = wNr W a x) → ∃ s', zexec skX (zcall zMs skX (d + 1)) zT_A_insert 0 N 9 [some (.inr (.inr 12)), some (.inl (nI w)), some (.inl (nI c)), some (.inl (nI (c * 32))), some (.inl (nI i))] [] s = some (none, s') ∧ (∀ (j x : Nat), (insL R w (insAt W a b w R i))[j]? = some x → zg s' 14 (c * 32 + j) = nI x) ∧ (∀ q, zg s' 13 q = if q = c then nI (R.length + 1) else zg s 13 q) ∧ (∀ p q, p ≠ 13 → p ≠ 14 → zg s' p q = zg s p q) ∧ (∀ q, (q < c * 32 ∨ c * 32 + 32 ≤ q) → zg s' 14 q = zg s 14 q) ∧ (∀ p q, zgl s' p q = zgl s p q) := by
  -- the end of it
  have fin : ∀ (i : Nat) (s : zS), i ≤ R.length → hole (zg s 14) (c * 32) R i → zg s 13 c = nI R.length → (∀ (j x : Nat), (insL R w i)[j]? = some x → zg (zs (zs s 14 (c * 32 + i) (nI w)) 13 c (nI (R.length + 1))) 14 (c * 32 + j) = nI x) ∧ (∀ q, zg (zs (zs s 14 (c * 32 + i) (nI w)) 13 c (nI (R.length + 1))) 13 q = if q = c then nI (R.length + 1) else zg s 13 q) ∧ (∀ p q, p ≠ 13 → p ≠ 14 → zg (zs (zs s 14 (c * 32 + i) (nI w)) 13 c (nI (R.length + 1))) p q = zg s p q) ∧ (∀ q, (q < c * 32 ∨ c * 32 + 32 ≤ q) → zg (zs (zs s 14 (c * 32 + i) (nI w)) 13 c (nI (R.length + 1))) 14 q = zg s 14 q) ∧ (∀ p q, zgl (zs (zs s 14 (c * 32 + i) (nI w)) 13 c (nI (R.length + 1))) p q = zgl s p q) := by
    intro i s hi hh hs
    refine ⟨?_, ?_, ?_, ?_, fun _ _ => rfl⟩
    · refine hole_fill hi hh (fun q => ?_)
      rw [zgz_ne (by decide), zg_zs, if_pos rfl]
    · intro q
      rw [zg_zs, if_pos rfl]
      rfl
    · intro p q h1 h2
      rw [zgz_ne h1, zgz_ne h2]
    · intro q hq
      rw [zgz_ne (by decide), zgz_nj (by omega)]
  intro i
  induction i with
  | zero =>
    intro N s hi hN hh hs w1 w2 hx
    obtain ⟨N, rfl⟩ : ∃ N', N = N' + 1 := ⟨N - 1, by omega⟩
    refine ⟨_, ?_, fin 0 s hi hh hs⟩
    rw [hX_A_insert_9]
    unfold bX_A_insert_9
    rw [if_pos (show nI 0 ≤ 0 by decide), nI_add, zin_nI (show c * 32 + 0 < 128 by omega) (by decide), nI_clamp (show c * 32 + 0 < 2 ^ 31 by omega)]
    simp only [zin_nI hc (show 4 < 2 ^ 31 by decide), nI_clamp (show c < 2 ^ 31 by omega), hs, nI_1]
  | succ i ih =>
    intro N s hi hN hh hs w1 w2 hx
    obtain ⟨N, rfl⟩ : ∃ N', N = N' + 1 := ⟨N - 1, by omega⟩
    have hg : R[i]? = some R[i] := List.getElem?_eq_getElem (by omega)
    have hv := hh.1 i _ (by omega) hg
    obtain ⟨hv32, v1, v2⟩ := hx i _ hg
    have hgd := getD_of hg
    generalize R[i] = v at hg hv hv32 v1 v2 hgd
    have e0 : nI (c * 32) + nI (i + 1) - (1 : Int32) = nI (c * 32 + i) := by rw [nI_add, ← Nat.add_assoc, nI_pred]
    have e1 : nI (c * 32) + nI (i + 1) = nI (c * 32 + i + 1) := by rw [nI_add, ← Nat.add_assoc]
    have hsb := sX_sb (W := W) (a := a) (b := b) d s hv32 hw v1 v2 w1 w2
    by_cases hb : wSb W a b v w
    · have hat : insAt W a b w R (i + 1) = i + 1 := insAt_t (by rw [hgd]; exact hb)
      rw [hat]
      refine ⟨_, ?_, fin (i + 1) s hi hh hs⟩
      rw [hX_A_insert_9]
      unfold bX_A_insert_9
      rw [if_neg (nI_nle (by omega) (by omega)), e0, e1, zin_nI (show c * 32 + i < 128 by omega) (by decide), nI_clamp (show c * 32 + i < 2 ^ 31 by omega), hv, hsb, zcI_some, zBp_t hb, if_pos o1, zin_nI (show c * 32 + i + 1 < 128 by omega) (by decide), nI_clamp (show c * 32 + i + 1 < 2 ^ 31 by omega)]
      simp only [zin_nI hc (show 4 < 2 ^ 31 by decide), nI_clamp (show c < 2 ^ 31 by omega), hs, nI_1]
      rfl
    · have hat : insAt W a b w R (i + 1) = insAt W a b w R i := insAt_f (by rw [hgd]; exact hb)
      rw [hat]
      have hh' : hole (zg (zs s 14 (c * 32 + i + 1) (nI v)) 14) (c * 32) R i := by
        refine hole_shift hh (fun q => ?_)
        rw [zg_zs, if_pos rfl, hv]
      obtain ⟨s', g1, g2, g3, g4, g5, g6⟩ := ih N (zs s 14 (c * 32 + i + 1) (nI v)) (by omega) (by omega) hh' hs w1 w2 hx
      refine ⟨s', ?_, g2, g3, fun p q h1 h2 => (g4 p q h1 h2).trans (zgz_ne h2), fun q hq => (g5 q hq).trans (zgz_nj (by omega)), g6⟩
      rw [hX_A_insert_9]
      unfold bX_A_insert_9
      rw [if_neg (nI_nle (by omega) (by omega)), e0, e1, zin_nI (show c * 32 + i < 128 by omega) (by decide), nI_clamp (show c * 32 + i < 2 ^ 31 by omega), hv, hsb, zcI_some, zBp_f hb, if_neg z0, zin_nI (show c * 32 + i < 128 by omega) (by decide), zin_nI (show c * 32 + i + 1 < 128 by omega) (by decide), nI_clamp (show c * 32 + i + 1 < 2 ^ 31 by omega), hv, pk_m1]
      exact g1
/-! the reference's comparison and insertion -/
theorem sM_far {W : aW} {a b w p q : Nat} (d : Nat) (t : zS) (hf : aWf W) (hM : aMz t W) (ha : a < aN W) (hb : b < aN W) (hw : w < aWn W) (hp : p < aN W) (hq : q < aN W) (e1 : aWy W w 1 = nI p) (e2 : aWy W w 2 = nI q) : zcall zMs skM (d + 2) 196 [.inr (.inr 0), .inl (nI w), .inl (nI a), .inl (nI b)] t = some (some (.inl (wFr W a b w)), t) := by
  have hn := hf.1
  have w1 := sM_wayz d w 1 hf.2.1 hM hw (by decide)
  have w2 := sM_wayz d w 2 hf.2.1 hM hw (by decide)
  rw [nIe1] at w1
  rw [nIe2] at w2
  rw [aM_M_far]
  unfold bM_M_far_0
  rw [w1, zcI_some, e1, sM_place d a p t hf (aM_ofz hf hM) ha (by omega), zcI_some, w2, zcI_some, e2, sM_place d b q t hf (aM_ofz hf hM) hb (by omega), zcI_some]
  have e3 : wP W w 1 = p := by unfold wP; rw [e1, nI_clamp (by omega)]
  have e4 : wP W w 2 = q := by unfold wP; rw [e2, nI_clamp (by omega)]
  unfold wFr wNr wNs
  rw [e3, e4]
theorem sM_near {W : aW} {a w p : Nat} (d : Nat) (t : zS) (hf : aWf W) (hM : aMz t W) (ha : a < aN W) (hw : w < aWn W) (hp : p < aN W) (e1 : aWy W w 1 = nI p) : zcall zMs skM (d + 1) 167 [.inr (.inr 0), .inl (nI a), .inl (aWy W w 1)] t = some (some (.inl (wNr W a w)), t) := by
  have hn := hf.1
  have e3 : wP W w 1 = p := by unfold wP; rw [e1, nI_clamp (by omega)]
  unfold wNr
  rw [e3, e1]
  exact sM_place d a p t hf (aM_ofz hf hM) ha (by omega)
theorem sM_ahead {W : aW} {a b v w : Nat} (d : Nat) (t : zS) (hf : aWf W) (hM : aMz t W) (ha : a < aN W) (hb : b < aN W) (hw : w < aWn W) (hv : v < w) : zcall zMs skM (d + 3) 197 [.inr (.inr 0), .inl (nI w), .inl (nI v), .inl (nI a), .inl (nI b)] t = some (some (.inl (zBp (¬ wSb W a b v w))), t) := by
  obtain ⟨g1, p1, q1, r1, f1, -, hp1, hq1, -, -, -, d1, d2, -, -⟩ := hf.2.2.2.2 w hw
  obtain ⟨g2, p2, q2, r2, f2, -, hp2, hq2, -, -, -, d3, d4, -, -⟩ := hf.2.2.2.2 v (by omega)
  have hwn := hf.2.1
  have fw := sM_far (d) t hf hM ha hb hw hp1 hq1 d1 d2
  have fv := sM_far (d) t hf hM ha hb (show v < aWn W by omega) hp2 hq2 d3 d4
  have nw := sM_near (d + 1) t hf hM ha hw hp1 d1
  have nv := sM_near (d + 1) t hf hM ha (show v < aWn W by omega) hp2 d3
  have y1 := sM_wayz (d + 1) w 1 hf.2.1 hM hw (by decide)
  have y2 := sM_wayz (d + 1) v 1 hf.2.1 hM (show v < aWn W by omega) (by decide)
  rw [nIe1] at y1 y2
  rw [aM_M_isAhead]
  unfold bM_M_isAhead_0
  rw [fw, zcI_some, fv, zcI_some]
  by_cases h : wFr W a b w = wFr W a b v
  · rw [if_pos h, y1, zcI_some, nw, zcI_some, y2, zcI_some, nv, zcI_some]
    by_cases h2 : wNr W a w = wNr W a v
    · rw [if_pos h2, if_neg (nI_ge hv (by omega)), zbo_1, zBp_t]
      intro q
      have := q.1 h.symm
      rw [h2, zlt] at this
      omega
    · rw [if_neg h2, y1, zcI_some, nw, zcI_some, y2, zcI_some, nv, zcI_some]
      by_cases h3 : wNr W a v ≤ wNr W a w
      · rw [if_pos h3, zbo_0, zBp_f]
        intro q
        apply q
        refine ⟨fun _ => ?_, fun q => absurd h.symm q⟩
        rw [zle] at h3
        rw [zlt]
        have : wNr W a w ≠ wNr W a v := h2
        have h4 : (wNr W a w).toInt ≠ (wNr W a v).toInt := fun c => h2 (Int32.toInt_inj.mp c)
        omega
      · rw [if_neg h3, zbo_1, zBp_t]
        intro q
        have := q.1 h.symm
        rw [zlt] at this
        rw [zle] at h3
        omega
  · rw [if_neg h, fw, zcI_some, fv, zcI_some]
    by_cases h3 : wFr W a b v ≤ wFr W a b w
    · rw [if_pos h3, zbo_0, zBp_f]
      intro q
      apply q
      refine ⟨fun q => absurd q.symm h, fun _ => ?_⟩
      rw [zle] at h3
      rw [zlt]
      have h4 : (wFr W a b w).toInt ≠ (wFr W a b v).toInt := fun c => h (Int32.toInt_inj.mp c)
      omega
    · rw [if_neg h3, zbo_1, zBp_t]
      intro q
      have := q.2 (fun c => h c.symm)
      rw [zlt] at this
      rw [zle] at h3
      omega
theorem sM_ins {W : aW} {a b c w : Nat} {R : List Nat} (g : Int32) (d : Nat) (hf : aWf W) (ha : a < aN W) (hb : b < aN W) (hw : w < aWn W) (hc : c < 4) (hR : R.length < 32) (hx : ∀ (j : Nat) (x : Nat), R[j]? = some x → x < w) : ∀ (i N : Nat) (t : zS), aMz t W → i ≤ R.length → hole (zg t 22) (32 * c) R i → zg t 23 c = nI R.length → ∃ t', zexec skM (zcall zMs skM (d + 3)) zT_M_stands 0 (N + i + 1) 53 [some (.inr (.inr 0)), some (.inl g), some (.inl (nI a)), some (.inl (nI b)), some (.inl (nI w)), some (.inl (nI c)), some (.inl (nI i))] [] t = zexec skM (zcall zMs skM (d + 3)) zT_M_stands 0 (N + insAt W a b w R i) 14 [some (.inr (.inr 0)), some (.inl g), some (.inl (nI a)), some (.inl (nI b)), some (.inl (nI (w + 1))), none, none] [] t' ∧ (∀ (j x : Nat), (insL R w (insAt W a b w R i))[j]? = some x → zg t' 22 (32 * c + j) = nI x) ∧ (∀ q, zg t' 23 q = if q = c then nI (R.length + 1) else zg t 23 q) ∧ (∀ p q, p ≠ 22 → p ≠ 23 → zg t' p q = zg t p q) ∧ (∀ q, (q < 32 * c ∨ 32 * c + 32 ≤ q) → zg t' 22 q = zg t 22 q) ∧ (∀ p q, zgl t' p q = zgl t p q) := by
  have hwn := hf.2.1
  have fin : ∀ (i : Nat) (s : zS), i ≤ R.length → hole (zg s 22) (32 * c) R i → zg s 23 c = nI R.length → (∀ (j x : Nat), (insL R w i)[j]? = some x → zg (zs (zs s 22 (32 * c + i) (nI w)) 23 c (nI (R.length + 1))) 22 (32 * c + j) = nI x) ∧ (∀ q, zg (zs (zs s 22 (32 * c + i) (nI w)) 23 c (nI (R.length + 1))) 23 q = if q = c then nI (R.length + 1) else zg s 23 q) ∧ (∀ p q, p ≠ 22 → p ≠ 23 → zg (zs (zs s 22 (32 * c + i) (nI w)) 23 c (nI (R.length + 1))) p q = zg s p q) ∧ (∀ q, (q < 32 * c ∨ 32 * c + 32 ≤ q) → zg (zs (zs s 22 (32 * c + i) (nI w)) 23 c (nI (R.length + 1))) 22 q = zg s 22 q) ∧ (∀ p q, zgl (zs (zs s 22 (32 * c + i) (nI w)) 23 c (nI (R.length + 1))) p q = zgl s p q) := by
    intro i s hi hh hs
    refine ⟨?_, ?_, ?_, ?_, fun _ _ => rfl⟩
    · refine hole_fill hi hh (fun q => ?_)
      rw [zgz_ne (by decide), zg_zs, if_pos rfl]
    · intro q
      rw [zg_zs, if_pos rfl]
      rfl
    · intro p q h1 h2
      rw [zgz_ne h2, zgz_ne h1]
    · intro q hq
      rw [zgz_ne (by decide), zgz_nj (by omega)]
  intro i
  induction i with
  | zero =>
    intro N s hM hi hh hs
    refine ⟨_, ?_, fin 0 s hi hh hs⟩
    rw [hM_M_stands_53]
    unfold bM_M_stands_53
    rw [if_pos (show nI 0 ≤ 0 by decide), nlit32', zin_nI (show 32 * c + 0 < 128 by omega) (by decide), nI_clamp (show 32 * c + 0 < 2 ^ 31 by omega)]
    simp only [zin_nI hc (show 4 < 2 ^ 31 by decide), nI_clamp (show c < 2 ^ 31 by omega), hs, nI_1]
    rfl
  | succ i ih =>
    intro N s hM hi hh hs
    have hg : R[i]? = some R[i] := List.getElem?_eq_getElem (by omega)
    have hv := hh.1 i _ (by omega) hg
    have hvw := hx i _ hg
    have hgd := getD_of hg
    generalize R[i] = v at hg hv hvw hgd
    have e0 : (32 : Int32) * nI c + nI (i + 1) - (1 : Int32) = nI (32 * c + i) := by rw [nlit32', ← Nat.add_assoc, nI_pred]
    have e1 : (32 : Int32) * nI c + nI (i + 1) = nI (32 * c + i + 1) := by rw [nlit32', ← Nat.add_assoc]
    have hsb := sM_ahead d s hf hM ha hb hw hvw
    by_cases hb2 : wSb W a b v w
    · have hat : insAt W a b w R (i + 1) = i + 1 := insAt_t (by rw [hgd]; exact hb2)
      rw [hat]
      refine ⟨_, ?_, fin (i + 1) s hi hh hs⟩
      rw [hM_M_stands_53]
      unfold bM_M_stands_53
      rw [if_neg (nI_nle (by omega) (by omega)), e0, e1, zin_nI (show 32 * c + i < 128 by omega) (by decide), nI_clamp (show 32 * c + i < 2 ^ 31 by omega), hv, hsb, zcI_some, zBp_f (fun q => q hb2), if_pos (show (0 : Int32) = 0 from rfl), zin_nI (show 32 * c + i + 1 < 128 by omega) (by decide), nI_clamp (show 32 * c + i + 1 < 2 ^ 31 by omega)]
      simp only [zin_nI hc (show 4 < 2 ^ 31 by decide), nI_clamp (show c < 2 ^ 31 by omega), hs, nI_1]
      rfl
    · have hat : insAt W a b w R (i + 1) = insAt W a b w R i := insAt_f (by rw [hgd]; exact hb2)
      rw [hat]
      have hh' : hole (zg (zs s 22 (32 * c + i + 1) (nI v)) 22) (32 * c) R i := by
        refine hole_shift hh (fun q => ?_)
        rw [zg_zs, if_pos rfl, hv]
      have hM' : aMz (zs s 22 (32 * c + i + 1) (nI v)) W := aMz_fr (fun p h1 h10 i => zgz_ne (by omega)) rfl rfl rfl hM
      obtain ⟨t', g1, g2, g3, g4, g5, g6⟩ := ih N (zs s 22 (32 * c + i + 1) (nI v)) hM' (by omega) hh' hs
      refine ⟨t', ?_, g2, g3, fun p q h1 h2 => (g4 p q h1 h2).trans (zgz_ne h1), fun q hq => (g5 q hq).trans (zgz_nj (by omega)), g6⟩
      rw [show N + (i + 1) + 1 = (N + i + 1) + 1 by omega, hM_M_stands_53]
      unfold bM_M_stands_53
      rw [if_neg (nI_nle (by omega) (by omega)), e0, e1, zin_nI (show 32 * c + i < 128 by omega) (by decide), nI_clamp (show 32 * c + i < 2 ^ 31 by omega), hv, hsb, zcI_some, zBp_t hb2, if_neg o1, zin_nI (show 32 * c + i < 128 by omega) (by decide), zin_nI (show 32 * c + i + 1 < 128 by omega) (by decide), nI_clamp (show 32 * c + i + 1 < 2 ^ 31 by omega), hv, pk_m1]
      exact g1
