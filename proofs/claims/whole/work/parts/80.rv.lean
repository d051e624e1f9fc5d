/-! READ: what holds on the way -/
def rEx (W0 W : aW) : Prop := aN W0 ≤ aN W ∧ (∀ o, o < aN W0 → aK W o = aK W0 o ∧ aP W o = aP W0 o ∧ aO W o = aO W0 o ∧ ∀ i, aS W o i = aS W0 o i) ∧ aWn W = aWn W0 ∧ (∀ w i, aWy W w i = aWy W0 w i) ∧ aSd W = aSd W0
theorem rEx_r (W : aW) : rEx W W := ⟨Nat.le_refl _, fun _ _ => ⟨rfl, rfl, rfl, fun _ => rfl⟩, rfl, fun _ _ => rfl, rfl⟩
theorem rEx_set {W0 W : aW} {o i : Nat} {v : Nat × Int32 × Int32} (h : rEx W0 W) (ho : aN W0 ≤ o) : rEx W0 (aSet W o i v) := by
  obtain ⟨h1, h2, h3, h4, h5⟩ := h
  refine ⟨h1, fun p hp => ⟨(h2 p hp).1, (h2 p hp).2.1, (h2 p hp).2.2.1, fun j => ?_⟩, h3, h4, h5⟩
  have e : aS (aSet W o i v) p j = aS W p j := if_neg (fun c => by have := c.1; omega)
  rw [e]
  exact (h2 p hp).2.2.2 j
theorem rEx_new {W0 W : aW} {k : Nat} {ps r : List Nat} (h : rEx W0 W) : rEx W0 (aNew W k ps r) := by
  obtain ⟨h1, h2, h3, h4, h5⟩ := h
  refine ⟨Nat.le_succ_of_le h1, fun p hp => ?_, h3, h4, h5⟩
  have hne : ¬ p = aN W := by omega
  obtain ⟨g1, g2, g3, g4⟩ := h2 p hp
  have e1 : aK (aNew W k ps r) p = aK W p := if_neg hne
  have e2 : aP (aNew W k ps r) p = aP W p := if_neg hne
  have e3 : aO (aNew W k ps r) p = aO W p := if_neg hne
  have e4 : ∀ j, aS (aNew W k ps r) p j = aS W p j := fun j => if_neg hne
  exact ⟨e1.trans g1, e2.trans g2, e3.trans g3, fun j => (e4 j).trans (g4 j)⟩
def rFx (s0 s : zS) : Prop := (∀ p, (p < 2 ∨ (12 ≤ p ∧ p ≤ 35) ∨ 43 ≤ p) → ∀ i, zg s p i = zg s0 p i) ∧ ∀ p i, zgl s p i = zgl s0 p i
def rFm (t0 t : zS) : Prop := (∀ p, 10 < p → p ≠ 14 → (p < 16 ∨ 19 < p) → ∀ i, zg t p i = zg t0 p i) ∧ (∀ i, i ≠ 0 → i ≠ 18 → i ≠ 19 → i ≠ 20 → i ≠ 27 → zg t 0 i = zg t0 0 i) ∧ ∀ p i, zgl t p i = zgl t0 p i
theorem rFx_t {a b c : zS} (h : rFx a b) (g : rFx b c) : rFx a c := ⟨fun p e i => (g.1 p e i).trans (h.1 p e i), fun p i => (g.2 p i).trans (h.2 p i)⟩
theorem rFm_t {a b c : zS} (h : rFm a b) (g : rFm b c) : rFm a c := ⟨fun p e e2 e3 i => (g.1 p e e2 e3 i).trans (h.1 p e e2 e3 i), fun i a1 a2 a3 a4 a5 => (g.2.1 i a1 a2 a3 a4 a5).trans (h.2.1 i a1 a2 a3 a4 a5), fun p i => (g.2.2 p i).trans (h.2.2 p i)⟩
theorem rFx_k {s s' : zS} (h : kFX s s') : rFx s s' := ⟨fun p e i => h.1 p i (by omega), h.2⟩
theorem rFm_k {t t' : zS} (h : kFM t t') : rFm t t' := ⟨fun p e _ _ i => h.1 p i (by omega), fun i _ a b c _ => h.1 0 i (by omega), h.2⟩
theorem rFx_4 (s : zS) (v : Int32) : rFx s (zs s 42 4 v) := ⟨fun p e i => zgz_ne (by omega), fun _ _ => rfl⟩
theorem kFX_X {s s' : zS} {W : aW} (h : kFX s s') (hX : aX 2 s W) : aX 2 s' W := aX_fr (fun p h2 h11 i => h.1 p i (by omega)) hX
theorem kFM_M {t t' : zS} {W : aW} (h : kFM t t') (hM : aMz t W) : aMz t' W := aMz_fr (fun p h1 h10 i => h.1 p i (by omega)) (h.1 0 0 (by decide)) (h.1 0 10 (by decide)) (h.1 0 12 (by decide)) hM
def rV (k m : Nat) (T : Nat → Int32) (W0 : aW) (s0 t0 : zS) (W : aW) (a : Nat) (s t : zS) : Prop := aWf W ∧ aX 2 s W ∧ aMz t W ∧ rEx W0 W ∧ rFx s0 s ∧ rFm t0 t ∧ ktX m T a s ∧ ktM k m T a t ∧ a ≤ m ∧ zg s 42 4 = -1 ∧ zg s 42 0 = nI (aN W - aN W0)
def rBad (W0 : aW) (s0 t0 s t : zS) : Prop := ∃ W f, aWf W ∧ aX 2 s W ∧ aMz t W ∧ rEx W0 W ∧ rFx s0 s ∧ rFm t0 t ∧ f ≤ 160 ∧ zg s 42 4 = nI f ∧ zg t 0 18 = nI f
theorem rv_go {k m : Nat} {T : Nat → Int32} {W0 W : aW} {s0 t0 s t s' t' : zS} {a b : Nat} (h : rV k m T W0 s0 t0 W a s t) (fx : kFX s s') (fm : kFM t t') (ex : zg s' 42 3 = nI b) (em : zg t' 0 18 = nI b) (hb : b ≤ m) : rV k m T W0 s0 t0 W b s' t' := by
  obtain ⟨h1, h2, h3, h4, h5, h6, h7, h8, h9, h10, h11⟩ := h
  exact ⟨h1, kFX_X fx h2, kFM_M fm h3, h4, rFx_t h5 (rFx_k fx), rFm_t h6 (rFm_k fm), ktX_go h7 fx ex, ktM_go h8 fm em, hb, (fx.1 42 4 (by decide)).trans h10, (fx.1 42 0 (by decide)).trans h11⟩
theorem rv_bad {k m : Nat} {T : Nat → Int32} {W0 W : aW} {s0 t0 s t s' t' : zS} {a f : Nat} (h : rV k m T W0 s0 t0 W a s t) (hm : m ≤ 160) (fx : kFX s s') (fm : kFM t t') (em : zg t' 0 18 = nI f) (hf : f ≤ m) : rBad W0 s0 t0 (zs s' 42 4 (nI f)) t' := by
  obtain ⟨h1, h2, h3, h4, h5, h6, h7, h8, h9, h10, h11⟩ := h
  exact ⟨W, f, h1, aX_fr (fun p h2 h11 i => zgz_ne (by omega)) (kFX_X fx h2), kFM_M fm h3, h4, rFx_t (rFx_t h5 (rFx_k fx)) (rFx_4 _ _), rFm_t h6 (rFm_k fm), by omega, zgz_eq, em⟩
/-- a number with a sign, on both sides -/
theorem jk_sn {k m : Nat} {T : Nat → Int32} {a : Nat} {s t : zS} (d e : Nat) (hk : k < 8) (hm : m ≤ 160) (ha : a ≤ m) (hx : ktX m T a s) (ht : ktM k m T a t) : (∃ b s' t', a < b ∧ b ≤ m ∧ zcall zMs skX (d + 2) 23 [.inr (.inr 42), .inl 1] s = some (some (.inl 1), s') ∧ zcall zMs skM (e + 4) 157 [.inr (.inr 0)] t = some (some (.inl 1), t') ∧ kFX s s' ∧ kFM t t' ∧ zg s' 42 3 = nI b ∧ zg t' 0 18 = nI b ∧ zg s' 42 5 = zg t' 0 19) ∨ (∃ f s' t', f ≤ m ∧ zcall zMs skX (d + 2) 23 [.inr (.inr 42), .inl 1] s = some (some (.inl 0), zs s' 42 4 (nI f)) ∧ zcall zMs skM (e + 4) 157 [.inr (.inr 0)] t = some (some (.inl 0), t') ∧ kFX s s' ∧ kFM t t' ∧ zg t' 0 18 = nI f) := by
  obtain ⟨i1, i2⟩ := mk_is (e + 1) 45 (by decide) hk hm ha ht
  obtain ⟨x1, x2⟩ := xk_sn d hm ha hx
  rw [aM_M_isSigned]
  unfold bM_M_isSigned_0
  by_cases hc : tkC m T a 45
  · have hl := hc.1
    obtain ⟨y1, y2, y3⟩ := x2 hc
    have f0 : kFM t (zs t 0 18 (nI (a + 1))) := kFM_z (kFM_r t) (by decide)
    have h0 := ktM_go ht f0 zgz_eq
    obtain ⟨n1, n2, n3⟩ := mk_num e hk hm (show a + 1 ≤ m by omega) h0
    rw [i1 hc, zcI_some]
    by_cases e1 : tkD m T (a + 1)
    · have hl1 := e1.1
      by_cases e2 : tkD m T (a + 2)
      · have hl2 := e2.1
        obtain ⟨s', z1, z2, z3, z4⟩ := y3 e1 e2
        obtain ⟨t', w1, w2, w3, w4, w5⟩ := n3 e1 e2
        refine Or.inl ⟨a + 3, s', zs t' 0 19 (-(zg t' 0 19)), by omega, by omega, z1, ?_, z2, kFM_z (kFM_t f0 w2) (by decide), z3, (zgz_nj (by decide)).trans w3, ?_⟩
        · rw [w1, zcI_some, if_pos o1, if_neg o1]
          dsimp only
          rw [zbo_1]
        · rw [zgz_eq, z4, w5]
      · obtain ⟨s', z1, z2, z3, z4⟩ := y2 e1 e2
        obtain ⟨t', w1, w2, w3, w4, w5⟩ := n2 e1 e2
        refine Or.inl ⟨a + 2, s', zs t' 0 19 (-(zg t' 0 19)), by omega, by omega, z1, ?_, z2, kFM_z (kFM_t f0 w2) (by decide), z3, (zgz_nj (by decide)).trans w3, ?_⟩
        · rw [w1, zcI_some, if_pos o1, if_neg o1]
          dsimp only
          rw [zbo_1]
        · rw [zgz_eq, z4, w5]
    · obtain ⟨t', w1, w2, w3, w4⟩ := n1 e1
      refine Or.inr ⟨a + 1, _, t', by omega, y1 e1, ?_, kFX_z (kFX_r s) (Or.inl rfl), kFM_t f0 w2, w3⟩
      rw [w1, zcI_some, if_neg z0, zbo_0]
  · obtain ⟨y1, y2, y3⟩ := xk_num d hm ha hx
    obtain ⟨n1, n2, n3⟩ := mk_num e hk hm ha ht
    rw [i2 hc, zcI_some, x1 hc]
    by_cases e1 : tkD m T a
    · have hl1 := e1.1
      by_cases e2 : tkD m T (a + 1)
      · have hl2 := e2.1
        obtain ⟨s', z1, z2, z3, z4⟩ := y3 e1 e2
        obtain ⟨t', w1, w2, w3, w4, w5⟩ := n3 e1 e2
        refine Or.inl ⟨a + 2, s', t', by omega, by omega, z1, ?_, z2, w2, z3, w3, z4.trans w5.symm⟩
        rw [w1, zcI_some, if_pos o1, if_pos (show (0 : Int32) = 0 from rfl), zbo_1]
      · obtain ⟨s', z1, z2, z3, z4⟩ := y2 e1 e2
        obtain ⟨t', w1, w2, w3, w4, w5⟩ := n2 e1 e2
        refine Or.inl ⟨a + 1, s', t', by omega, by omega, z1, ?_, z2, w2, z3, w3, z4.trans w5.symm⟩
        rw [w1, zcI_some, if_pos o1, if_pos (show (0 : Int32) = 0 from rfl), zbo_1]
    · obtain ⟨t', w1, w2, w3, w4⟩ := n1 e1
      refine Or.inr ⟨a, s, t', by omega, y1 e1, ?_, kFX_r s, w2, w3⟩
      rw [w1, zcI_some, if_neg z0, zbo_0]
