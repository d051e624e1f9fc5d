/-! a new OBJECT, on both sides -/
def aNew (W : aW) (k : Nat) (ps r : List Nat) : aW := (aN W + 1, fun a => if a = aN W then k else aK W a, fun a => if a = aN W then ps else aP W a, fun a => if a = aN W then aN W :: r else aO W a, fun a b => if a = aN W then (0, 0, 0) else aS W a b, aWn W, aWy W, aSd W)
theorem aNew_f {W : aW} {k : Nat} {ps r : List Nat} (hf : aWf W) (hn : aN W < 16) (hk : k < 4) (hl : ps.length ≤ 3) (hps : ∀ p, p ∈ ps → p < aN W) (hr : r.Nodup) (hrm : ∀ x, x ∈ r → x < aN W) : aWf (aNew W k ps r) := by
  obtain ⟨f1, f2, f3, f4, f5⟩ := hf
  have hrl := nd_len (aN W) r hr hrm
  refine ⟨by show aN W + 1 ≤ 16; omega, f2, ?_, ?_, ?_⟩
  · intro a ha
    have ha' : a < aN W + 1 := ha
    show (if a = aN W then k else aK W a) < 4 ∧ (if a = aN W then ps else aP W a).length ≤ 3 ∧ (∀ p ∈ (if a = aN W then ps else aP W a), p < aN W + 1) ∧ (if a = aN W then aN W :: r else aO W a)[0]? = some a ∧ (if a = aN W then aN W :: r else aO W a).length ≤ 16 ∧ (∀ p ∈ (if a = aN W then aN W :: r else aO W a), p < aN W + 1) ∧ (if a = aN W then aN W :: r else aO W a).Nodup
    by_cases h : a = aN W
    · rw [if_pos h, if_pos h, if_pos h]
      refine ⟨hk, hl, fun p hp => by have := hps p hp; omega, by rw [h]; rfl, by rw [List.length_cons]; omega, fun p hp => ?_, ?_⟩
      · rcases List.mem_cons.mp hp with hp | hp
        · omega
        · have := hrm p hp; omega
      · exact List.nodup_cons.mpr ⟨fun c => by have := hrm _ c; omega, hr⟩
    · rw [if_neg h, if_neg h, if_neg h]
      obtain ⟨g1, g2, g3, g4, g5, g6, g7⟩ := f3 a (by omega)
      exact ⟨g1, g2, fun p hp => by have := g3 p hp; omega, g4, g5, fun p hp => by have := g6 p hp; omega, g7⟩
  · intro a b ha hb
    have ha' : a < aN W + 1 := ha
    show (if a = aN W then (0, 0, 0) else aS W a b : Nat × Int32 × Int32).1 ≤ 2 ∧ ((if a = aN W then (0, 0, 0) else aS W a b : Nat × Int32 × Int32).1 = 2 → ∃ f, f < 10 ∧ (if a = aN W then (0, 0, 0) else aS W a b : Nat × Int32 × Int32).2.1 = nI f) ∧ ((if a = aN W then (0, 0, 0) else aS W a b : Nat × Int32 × Int32).1 = 1 → (if a = aN W then (0, 0, 0) else aS W a b : Nat × Int32 × Int32).2.1 = 0)
    by_cases h : a = aN W
    · rw [if_pos h]
      exact ⟨Nat.zero_le _, fun c => absurd c (by decide), fun c => absurd c (by decide)⟩
    · rw [if_neg h]
      exact f4 a b (by omega) hb
  · intro w hw
    obtain ⟨g, p, q, r', f, h1, h2, h3, h4⟩ := f5 w hw
    exact ⟨g, p, q, r', f, h1, by show p < aN W + 1; omega, by show q < aN W + 1; omega, h4⟩
theorem sX_drop16 (d o : Nat) (ho : o < 16) : ∀ (f j K : Nat) (s : zS), j + f = 16 → f < K → ∃ s', zexec skX (zcall zMs skX (d + 1)) zT_W_addObject 1 K 55 [some (.inr (.inr 2)), none, none, some (.inl (nI o)), some (.inl (nI j))] [] s = some (some (.inl (nI o)), zs s' 2 0 (nI (o + 1))) ∧ (∀ x, zg s' 8 x = if o * 16 + j ≤ x ∧ x < o * 16 + 16 then 0 else zg s 8 x) ∧ (∀ p x, p ≠ 8 → zg s' p x = zg s p x) ∧ (∀ p x, zgl s' p x = zgl s p x) := by
  intro f
  induction f with
  | zero =>
    intro j K s hj hK
    obtain ⟨K, rfl⟩ : ∃ K', K = K' + 1 := ⟨K - 1, by omega⟩
    refine ⟨s, ?_, fun x => by rw [if_neg (by omega)], fun _ _ _ => rfl, fun _ _ => rfl⟩
    rw [hX_W_addObject_55]
    unfold bX_W_addObject_55
    rw [if_pos (show (16 : Int32) ≤ nI j from nI_le (show 16 ≤ j by omega) (by omega)), nI_1]
  | succ f ih =>
    intro j K s hj hK
    obtain ⟨K, rfl⟩ : ∃ K', K = K' + 1 := ⟨K - 1, by omega⟩
    obtain ⟨s', g1, g2, g3, g4⟩ := ih (j + 1) K (zs s 8 (o * 16 + j) 0) (by omega) (by omega)
    refine ⟨s', ?_, fun x => ?_, fun p x hp => (g3 p x hp).trans (zgz_ne hp), g4⟩
    · rw [hX_W_addObject_55]
      unfold bX_W_addObject_55
      rw [if_neg (show ¬ (16 : Int32) ≤ nI j from nI_ge (show j < 16 by omega) (by decide)), sX_drop d o j s ho (by omega), zcV_some, nI_1]
      exact g1
    · rw [g2, zg_zs, if_pos rfl]
      by_cases hx : x = o * 16 + j
      · rw [if_neg (by omega), if_pos hx, if_pos (by omega)]
      · rw [if_neg hx]
        by_cases hr : o * 16 + (j + 1) ≤ x ∧ x < o * 16 + 16
        · rw [if_pos hr, if_pos (by omega)]
        · rw [if_neg hr, if_neg (by omega)]
theorem nmul3 (k : Nat) : nI k * (3 : Int32) = nI (k * 3) := by
  rw [show (3 : Int32) = nI 3 by decide, pk_mul]
theorem n16m (k : Nat) : (16 : Int32) * nI k = nI (16 * k) := by
  rw [show (16 : Int32) = nI 16 from rfl, pk_mul]
theorem wlit3 (o i : Nat) : (3 : Int32) * nI o + nI i = nI (3 * o + i) := by
  rw [show (3 : Int32) = nI 3 by decide, pk_mul, nI_add]
theorem sX_add {W : aW} {k : Nat} {ps r : List Nat} {s : zS} (d : Nat) (hf : aWf W) (hn : aN W < 16) (hl : ps.length ≤ 3) (hrm : ∀ x, x ∈ r → x < aN W) (hr : r.Nodup) (hX : aX 2 s W) (hT : tX s ps) (h3 : zg s 36 3 = nI r.length) (hm : mIn (zg s 38) r) : ∃ s', zcall zMs skX (d + 2) 62 [.inr (.inr 2), .inl (nI k), .inr (.inr 36)] s = some (some (.inl (nI (aN W))), s') ∧ aX 2 s' (aNew W k ps r) ∧ (∀ p x, (p < 2 ∨ 9 ≤ p) → zg s' p x = zg s p x) ∧ (∀ p x, zgl s' p x = zgl s p x) := by
  have hrl := nd_len (aN W) r hr hrm
  obtain ⟨t1, t2⟩ := hT
  obtain ⟨x1, x2, x3, x4, x5, x6⟩ := hX
  generalize hs6 : zs (zsc (zs (zsc (zs (zs s 3 (aN W) (nI k)) 4 (aN W) (nI ps.length)) 37 5 0 (aN W * 3) ps.length) 7 (aN W * 16) (nI (aN W))) 38 7 0 (aN W * 16 + 1) r.length) 6 (aN W) (nI (r.length + 1)) = s6
  obtain ⟨s', g1, g2, g3, g4⟩ := sX_drop16 d (aN W) hn 16 0 19999 s6 rfl (by omega)
  rw [nI_0] at g1
  have c3 : ∀ x, zg s6 3 x = if x = aN W then nI k else zg s 3 x := by
    intro x
    rw [← hs6]
    simp [zg_zs, zg_zsc]
  have c4 : ∀ x, zg s6 4 x = if x = aN W then nI ps.length else zg s 4 x := by
    intro x
    rw [← hs6]
    simp [zg_zs, zg_zsc]
  have c5 : ∀ x, zg s6 5 x = if aN W * 3 ≤ x ∧ x < aN W * 3 + ps.length then zg s 37 (x - aN W * 3) else zg s 5 x := by
    intro x
    rw [← hs6]
    simp [zg_zs, zg_zsc]
  have c6 : ∀ x, zg s6 6 x = if x = aN W then nI (r.length + 1) else zg s 6 x := by
    intro x
    rw [← hs6]
    simp [zg_zs, zg_zsc]
  have c7 : ∀ x, zg s6 7 x = if aN W * 16 + 1 ≤ x ∧ x < aN W * 16 + 1 + r.length then zg s 38 (x - (aN W * 16 + 1)) else if x = aN W * 16 then nI (aN W) else zg s 7 x := by
    intro x
    rw [← hs6]
    simp [zg_zs, zg_zsc]
  have co : ∀ p x, p ≠ 3 → p ≠ 4 → p ≠ 5 → p ≠ 6 → p ≠ 7 → zg s6 p x = zg s p x := by
    intro p x p3 p4 p5 p6 p7
    rw [← hs6, zgz_ne p6, zg_zsc, if_neg p7, zgz_ne p7, zg_zsc, if_neg p5, zgz_ne p4, zgz_ne p3]
  have cl : ∀ p x, zgl s6 p x = zgl s p x := by
    intro p x
    rw [← hs6]
    rfl
  refine ⟨zs s' 2 0 (nI (aN W + 1)), ?_, ⟨zgz_eq, ?_, ?_, ?_, ?_, ?_⟩, fun p x hp => ?_, fun p x => (g4 p x).trans (cl p x)⟩
  · rw [aX_W_addObject]
    unfold bX_W_addObject_0
    have h20 : zg s 2 0 = nI (aN W) := x1
    have z5 : ∀ z : zR, zcpin (0 : Int32) (nI (aN W * 3)) (nI ps.length) 3 48 z = z := fun z => zcpin_ok (a := 0) (b := aN W * 3) (n := ps.length) z (by omega) (by omega) (by decide) (by decide)
    have z7 : ∀ z : zR, zcpin (0 : Int32) (nI (aN W * 16 + 1)) (nI r.length) 16 256 z = z := fun z => zcpin_ok (a := 0) (b := aN W * 16 + 1) (n := r.length) z (by omega) (by omega) (by decide) (by decide)
    simp only [h20, t1, h3, nmul3, nmul16b, nI_1, z5, z7, zin_nI hn (show 16 < 2 ^ 31 by decide), nI_clamp (show aN W < 2 ^ 31 by omega), cl0, nI_clamp (show aN W * 3 < 2 ^ 31 by omega), nI_clamp (show aN W * 16 < 2 ^ 31 by omega), nI_clamp (show aN W * 16 + 1 < 2 ^ 31 by omega), nI_clamp (show ps.length < 2 ^ 31 by omega), nI_clamp (show r.length < 2 ^ 31 by omega), zin_nI (show aN W * 16 < 256 by omega) (show 256 < 2 ^ 31 by decide)]
    rw [hs6]
    exact g1
  · rw [zgz_nj (by decide), g3 2 1 (by decide), co 2 1 (by decide) (by decide) (by decide) (by decide) (by decide)]
    exact x2
  · rw [zgz_nj (by decide), g3 2 2 (by decide), co 2 2 (by decide) (by decide) (by decide) (by decide) (by decide)]
    exact x3
  · intro a ha
    have ha' : a < aN W + 1 := ha
    show zg (zs s' 2 0 (nI (aN W + 1))) 3 a = nI (if a = aN W then k else aK W a) ∧ zg (zs s' 2 0 (nI (aN W + 1))) 4 a = nI (if a = aN W then ps else aP W a).length ∧ (∀ (i p : Nat), (if a = aN W then ps else aP W a)[i]? = some p → zg (zs s' 2 0 (nI (aN W + 1))) 5 (a * 3 + i) = nI p) ∧ zg (zs s' 2 0 (nI (aN W + 1))) 6 a = nI (if a = aN W then aN W :: r else aO W a).length ∧ (∀ (i p : Nat), (if a = aN W then aN W :: r else aO W a)[i]? = some p → zg (zs s' 2 0 (nI (aN W + 1))) 7 (a * 16 + i) = nI p)
    rw [zgz_ne (by decide), zgz_ne (by decide), zgz_ne (by decide), g3 3 a (by decide), g3 4 a (by decide), g3 6 a (by decide), c3, c4, c6]
    by_cases h : a = aN W
    · rw [if_pos h, if_pos h, if_pos h, if_pos h, if_pos h, if_pos h, List.length_cons]
      refine ⟨rfl, rfl, fun i p hp => ?_, rfl, fun i p hp => ?_⟩
      · have hi := (List.getElem?_eq_some_iff.mp hp).1
        rw [zgz_ne (by decide), g3 5 _ (by decide), c5, h, if_pos ⟨by omega, by omega⟩, Nat.add_sub_cancel_left]
        exact t2 i p hp
      · rw [zgz_ne (by decide), g3 7 _ (by decide), c7, h]
        cases i with
        | zero =>
          simp only [List.getElem?_cons_zero, Option.some.injEq] at hp
          rw [if_neg (by omega), if_pos (by omega), hp]
        | succ i =>
          simp only [List.getElem?_cons_succ] at hp
          have hi := (List.getElem?_eq_some_iff.mp hp).1
          rw [if_pos ⟨by omega, by omega⟩, show aN W * 16 + (i + 1) - (aN W * 16 + 1) = i by omega]
          exact hm i p hp
    · rw [if_neg h, if_neg h, if_neg h, if_neg h, if_neg h, if_neg h]
      obtain ⟨y1, y2, y3, y4, y5⟩ := x4 a (by omega)
      have hpl := (hf.2.2.1 a (by omega)).2.1
      have hol := aWf_len hf (show a < aN W by omega)
      refine ⟨y1, y2, fun i p hp => ?_, y4, fun i p hp => ?_⟩
      · have hi := (List.getElem?_eq_some_iff.mp hp).1
        rw [zgz_ne (by decide), g3 5 _ (by decide), c5, if_neg (by omega)]
        exact y3 i p hp
      · have hi := (List.getElem?_eq_some_iff.mp hp).1
        rw [zgz_ne (by decide), g3 7 _ (by decide), c7, if_neg (by omega), if_neg (by omega)]
        exact y5 i p hp
  · intro a b ha hb
    have ha' : a < aN W + 1 := ha
    show zg (zs s' 2 0 (nI (aN W + 1))) 8 (a * 16 + b) = nI (if a = aN W then (0, 0, 0) else aS W a b : Nat × Int32 × Int32).1 ∧ ((if a = aN W then (0, 0, 0) else aS W a b : Nat × Int32 × Int32).1 ≠ 0 → zg (zs s' 2 0 (nI (aN W + 1))) 9 (a * 16 + b) = (if a = aN W then (0, 0, 0) else aS W a b : Nat × Int32 × Int32).2.1 ∧ zg (zs s' 2 0 (nI (aN W + 1))) 10 (a * 16 + b) = (if a = aN W then (0, 0, 0) else aS W a b : Nat × Int32 × Int32).2.2)
    rw [zgz_ne (by decide), zgz_ne (by decide), zgz_ne (by decide), g2, g3 9 _ (by decide), g3 10 _ (by decide), co 9 _ (by decide) (by decide) (by decide) (by decide) (by decide), co 10 _ (by decide) (by decide) (by decide) (by decide) (by decide), co 8 _ (by decide) (by decide) (by decide) (by decide) (by decide)]
    by_cases h : a = aN W
    · rw [if_pos h, if_pos (by omega)]
      exact ⟨nI_0.symm, fun c => absurd rfl c⟩
    · rw [if_neg h, if_neg (by omega)]
      exact x5 a b (by omega) hb
  · intro w u hw hu
    show zg (zs s' 2 0 (nI (aN W + 1))) 11 (w * 6 + u) = _
    rw [zgz_ne (by decide), g3 11 _ (by decide), co 11 _ (by decide) (by decide) (by decide) (by decide) (by decide)]
    exact x6 w u hw hu
  · rw [zgz_ne (by omega), g3 p x (by omega), co p x (by omega) (by omega) (by omega) (by omega) (by omega)]
/-! the reference -/
theorem sM_par (C : Nat → List zV → zS → zR) (o n rl : Nat) (ho : o < 16) (hn : n ≤ 3) (hrl : rl ≤ 16) : ∀ (f j K : Nat) (t : zS), j + f = 3 → zg t 0 27 = nI rl → ∃ t', zexec skM C zT_M_newObject 1 (K + f + 1) 20 [some (.inr (.inr 0)), none, some (.inl (nI n)), some (.inl (nI o)), some (.inl (nI j))] [] t = zexec skM C zT_M_newObject 1 K 59 [some (.inr (.inr 0)), none, none, some (.inl (nI o)), some (.inl (nI 0))] [] (zs (zs t' 4 o (nI (rl + 1))) 5 (16 * o) (nI o)) ∧ (∀ x, zg t' 3 x = if 3 * o + j ≤ x ∧ x < 3 * o + 3 then (if x - 3 * o < n then zg t 14 (x - 3 * o) else -1) else zg t 3 x) ∧ (∀ p x, p ≠ 3 → zg t' p x = zg t p x) ∧ (∀ p x, zgl t' p x = zgl t p x) := by
  intro f
  induction f with
  | zero =>
    intro j K t hj h27
    refine ⟨t, ?_, fun x => by rw [if_neg (by omega)], fun _ _ _ => rfl, fun _ _ => rfl⟩
    rw [show K + 0 + 1 = K + 1 by omega, hM_M_newObject_20]
    unfold bM_M_newObject_20
    rw [if_pos (show (3 : Int32) ≤ nI j from nI_le (show 3 ≤ j by omega) (by omega)), zin_nI ho (by decide), n16m, zin_nI (show 16 * o < 256 by omega) (by decide), nI_clamp (show o < 2 ^ 31 by omega), nI_clamp (show 16 * o < 2 ^ 31 by omega), h27, nI_1, nI_0]
  | succ f ih =>
    intro j K t hj h27
    have one : zexec skM C zT_M_newObject 1 (K + (f + 1) + 1) 20 [some (.inr (.inr 0)), none, some (.inl (nI n)), some (.inl (nI o)), some (.inl (nI j))] [] t = zexec skM C zT_M_newObject 1 (K + f + 1) 20 [some (.inr (.inr 0)), none, some (.inl (nI n)), some (.inl (nI o)), some (.inl (nI (j + 1)))] [] (zs t 3 (3 * o + j) (if j < n then zg t 14 j else -1)) := by
      rw [show K + (f + 1) + 1 = (K + f + 1) + 1 by omega, hM_M_newObject_20]
      unfold bM_M_newObject_20
      rw [if_neg (show ¬ (3 : Int32) ≤ nI j from nI_ge (show j < 3 by omega) (by decide))]
      by_cases hjn : j < n
      · rw [if_neg (nI_ge hjn (by omega)), zin_nI (show j < 3 by omega) (by decide), wlit3, zin_nI (show 3 * o + j < 48 by omega) (by decide), nI_clamp (show j < 2 ^ 31 by omega), nI_clamp (show 3 * o + j < 2 ^ 31 by omega), nI_1, if_pos hjn]
      · rw [if_pos (nI_le (show n ≤ j by omega) (by omega)), wlit3, zin_nI (show 3 * o + j < 48 by omega) (by decide), nI_clamp (show 3 * o + j < 2 ^ 31 by omega), nI_1, if_neg hjn]
    obtain ⟨t', g1, g2, g3, g4⟩ := ih (j + 1) K (zs t 3 (3 * o + j) (if j < n then zg t 14 j else -1)) (by omega) h27
    refine ⟨t', one.trans g1, fun x => ?_, fun p x hp => (g3 p x hp).trans (zgz_ne hp), g4⟩
    rw [g2, zgz_ne (by decide), zg_zs, if_pos rfl]
    by_cases hx : x = 3 * o + j
    · rw [if_neg (show ¬ (3 * o + (j + 1) ≤ x ∧ x < 3 * o + 3) by omega), if_pos hx, if_pos (show 3 * o + j ≤ x ∧ x < 3 * o + 3 by omega), show x - 3 * o = j by omega]
    · rw [if_neg hx]
      by_cases hr : 3 * o + (j + 1) ≤ x ∧ x < 3 * o + 3
      · rw [if_pos hr, if_pos (show 3 * o + j ≤ x ∧ x < 3 * o + 3 by omega)]
      · rw [if_neg hr, if_neg (show ¬ (3 * o + j ≤ x ∧ x < 3 * o + 3) by omega)]
theorem sM_ordl (C : Nat → List zV → zS → zR) (o rl : Nat) (ho : o < 16) (hrl : rl ≤ 15) : ∀ (f j K : Nat) (t : zS), j + f = rl → f < K → zg t 0 27 = nI rl → ∃ t', zexec skM C zT_M_newObject 1 K 59 [some (.inr (.inr 0)), none, none, some (.inl (nI o)), some (.inl (nI j))] [] t = some (some (.inl (nI o)), zs (zs t' 6 o 0) 7 o 0) ∧ (∀ x, zg t' 5 x = if 16 * o + 1 + j ≤ x ∧ x < 16 * o + 1 + rl then zg t 19 (x - (16 * o + 1)) else zg t 5 x) ∧ (∀ p x, p ≠ 5 → zg t' p x = zg t p x) ∧ (∀ p x, zgl t' p x = zgl t p x) := by
  intro f
  induction f with
  | zero =>
    intro j K t hj hK h27
    obtain ⟨K, rfl⟩ : ∃ K', K = K' + 1 := ⟨K - 1, by omega⟩
    refine ⟨t, ?_, fun x => by rw [if_neg (by omega)], fun _ _ _ => rfl, fun _ _ => rfl⟩
    rw [hM_M_newObject_59]
    unfold bM_M_newObject_59
    rw [h27, if_pos (nI_le (by omega) (by omega)), zin_nI ho (by decide), zin_nI ho (by decide), nI_clamp (show o < 2 ^ 31 by omega)]
  | succ f ih =>
    intro j K t hj hK h27
    obtain ⟨K, rfl⟩ : ∃ K', K = K' + 1 := ⟨K - 1, by omega⟩
    obtain ⟨t', g1, g2, g3, g4⟩ := ih (j + 1) K (zs t 5 (16 * o + 1 + j) (zg t 19 j)) (by omega) (by omega) h27
    refine ⟨t', ?_, fun x => ?_, fun p x hp => (g3 p x hp).trans (zgz_ne hp), g4⟩
    · rw [hM_M_newObject_59]
      unfold bM_M_newObject_59
      rw [h27, if_neg (nI_ge (show j < rl by omega) (by omega)), zin_nI (show j < 17 by omega) (by decide), n16m, nI_1, nI_add, zin_nI (show 16 * o + 1 + j < 256 by omega) (by decide), nI_clamp (show j < 2 ^ 31 by omega), nI_clamp (show 16 * o + 1 + j < 2 ^ 31 by omega), nI_1]
      exact g1
    · rw [g2, zgz_ne (by decide), zg_zs, if_pos rfl]
      by_cases hx : x = 16 * o + 1 + j
      · rw [if_neg (by omega), if_pos hx, if_pos (by omega), show x - (16 * o + 1) = j by omega]
      · rw [if_neg hx]
        by_cases hr : 16 * o + 1 + (j + 1) ≤ x ∧ x < 16 * o + 1 + rl
        · rw [if_pos hr, if_pos (by omega)]
        · rw [if_neg hr, if_neg (by omega)]
theorem sM_new {W : aW} {k : Nat} {ps r : List Nat} {t : zS} (d : Nat) (hf : aWf W) (hn : aN W < 16) (hl : ps.length ≤ 3) (hrm : ∀ x, x ∈ r → x < aN W) (hr : r.Nodup) (hM : aMz t W) (hT : mIn (zg t 14) ps) (h27 : zg t 0 27 = nI r.length) (hm : mIn (zg t 19) r) : ∃ t', zcall zMs skM (d + 1) 146 [.inr (.inr 0), .inl (nI k), .inl (nI ps.length)] t = some (some (.inl (nI (aN W))), t') ∧ aMz t' (aNew W k ps r) ∧ (∀ p x, 10 ≤ p → zg t' p x = zg t p x) ∧ (∀ x, x ≠ 0 → zg t' 0 x = zg t 0 x) ∧ (∀ p x, zgl t' p x = zgl t p x) := by
  have hrl := nd_len (aN W) r hr hrm
  obtain ⟨m1, m2, m3, m4, m5, m6, m7⟩ := hM
  generalize hu : zs (zs (zs t 0 0 (nI (aN W + 1))) 1 (aN W) (nI k)) 2 (aN W) (nI ps.length) = u
  have u0 : ∀ x, zg u 0 x = if x = 0 then nI (aN W + 1) else zg t 0 x := fun x => by rw [← hu, zgz_ne (by decide), zgz_ne (by decide), zg_zs, if_pos rfl]
  have u1 : ∀ x, zg u 1 x = if x = aN W then nI k else zg t 1 x := fun x => by rw [← hu, zgz_ne (by decide), zg_zs, if_pos rfl, zgz_ne (by decide)]
  have u2 : ∀ x, zg u 2 x = if x = aN W then nI ps.length else zg t 2 x := fun x => by rw [← hu, zg_zs, if_pos rfl, zgz_ne (by decide), zgz_ne (by decide)]
  have uo : ∀ p x, p ≠ 0 → p ≠ 1 → p ≠ 2 → zg u p x = zg t p x := fun p x p0 p1 p2 => by rw [← hu, zgz_ne p2, zgz_ne p1, zgz_ne p0]
  have ul : ∀ p x, zgl u p x = zgl t p x := fun p x => by rw [← hu]; rfl
  obtain ⟨v, a1, a2, a3, a4⟩ := sM_par (zcall zMs skM d) (aN W) ps.length r.length hn hl (by omega) 3 0 19995 u rfl (by rw [u0, if_neg (by decide)]; exact h27)
  obtain ⟨w, b1, b2, b3, b4⟩ := sM_ordl (zcall zMs skM d) (aN W) r.length hn (by omega) r.length 0 19995 (zs (zs v 4 (aN W) (nI (r.length + 1))) 5 (16 * aN W) (nI (aN W))) (by omega) (by omega) (by
    rw [zgz_ne (by decide), zgz_ne (by decide), a3 0 27 (by decide), u0, if_neg (by decide)]; exact h27)
  rw [nI_0] at a1 b1
  refine ⟨zs (zs w 6 (aN W) 0) 7 (aN W) 0, ?_, ⟨?_, ?_, ?_, ?_, ?_, ?_, ?_⟩, fun p x hp => ?_, fun x hx => ?_, fun p x => ?_⟩
  · rw [aM_M_newObject]
    unfold bM_M_newObject_0
    rw [m1, nI_1, zin_nI hn (by decide), zin_nI hn (by decide), nI_clamp (show aN W < 2 ^ 31 by omega)]
    dsimp only
    rw [hu]
    exact a1.trans b1
  · rw [zgz_ne (by decide), zgz_ne (by decide), b3 0 0 (by decide), zgz_ne (by decide), zgz_ne (by decide), a3 0 0 (by decide), u0, if_pos rfl]
    rfl
  · rw [zgz_ne (by decide), zgz_ne (by decide), b3 0 10 (by decide), zgz_ne (by decide), zgz_ne (by decide), a3 0 10 (by decide), u0, if_neg (by decide)]
    exact m2
  · rw [zgz_ne (by decide), zgz_ne (by decide), b3 0 12 (by decide), zgz_ne (by decide), zgz_ne (by decide), a3 0 12 (by decide), u0, if_neg (by decide)]
    exact m3
  · intro a ha
    have ha' : a < aN W + 1 := ha
    show zg (zs (zs w 6 (aN W) 0) 7 (aN W) 0) 1 a = nI (if a = aN W then k else aK W a) ∧ zg (zs (zs w 6 (aN W) 0) 7 (aN W) 0) 2 a = nI (if a = aN W then ps else aP W a).length ∧ (∀ i, i < 3 → zg (zs (zs w 6 (aN W) 0) 7 (aN W) 0) 3 (3 * a + i) = (match (if a = aN W then ps else aP W a)[i]? with | some p => nI p | none => -1)) ∧ zg (zs (zs w 6 (aN W) 0) 7 (aN W) 0) 4 a = nI (if a = aN W then aN W :: r else aO W a).length ∧ (∀ (i p : Nat), (if a = aN W then aN W :: r else aO W a)[i]? = some p → zg (zs (zs w 6 (aN W) 0) 7 (aN W) 0) 5 (16 * a + i) = nI p)
    have k1 : zg (zs (zs w 6 (aN W) 0) 7 (aN W) 0) 1 a = if a = aN W then nI k else zg t 1 a := by
      rw [zgz_ne (by decide), zgz_ne (by decide), b3 1 a (by decide), zgz_ne (by decide), zgz_ne (by decide), a3 1 a (by decide), u1]
    have k2 : zg (zs (zs w 6 (aN W) 0) 7 (aN W) 0) 2 a = if a = aN W then nI ps.length else zg t 2 a := by
      rw [zgz_ne (by decide), zgz_ne (by decide), b3 2 a (by decide), zgz_ne (by decide), zgz_ne (by decide), a3 2 a (by decide), u2]
    have k3 : ∀ x, zg (zs (zs w 6 (aN W) 0) 7 (aN W) 0) 3 x = if 3 * aN W ≤ x ∧ x < 3 * aN W + 3 then (if x - 3 * aN W < ps.length then zg t 14 (x - 3 * aN W) else -1) else zg t 3 x := by
      intro x
      rw [zgz_ne (by decide), zgz_ne (by decide), b3 3 x (by decide), zgz_ne (by decide), zgz_ne (by decide), a2, Nat.add_zero, uo 14 _ (by decide) (by decide) (by decide), uo 3 _ (by decide) (by decide) (by decide)]
    have k4 : zg (zs (zs w 6 (aN W) 0) 7 (aN W) 0) 4 a = if a = aN W then nI (r.length + 1) else zg t 4 a := by
      rw [zgz_ne (by decide), zgz_ne (by decide), b3 4 a (by decide), zgz_ne (by decide), zg_zs, if_pos rfl, a3 4 a (by decide), uo 4 _ (by decide) (by decide) (by decide)]
    have k5 : ∀ x, zg (zs (zs w 6 (aN W) 0) 7 (aN W) 0) 5 x = if 16 * aN W + 1 ≤ x ∧ x < 16 * aN W + 1 + r.length then zg t 19 (x - (16 * aN W + 1)) else if x = 16 * aN W then nI (aN W) else zg t 5 x := by
      intro x
      rw [zgz_ne (by decide), zgz_ne (by decide), b2, Nat.add_zero, zgz_ne (by decide), zgz_ne (by decide), a3 19 _ (by decide), uo 19 _ (by decide) (by decide) (by decide), zg_zs, if_pos rfl, zgz_ne (by decide), a3 5 _ (by decide), uo 5 _ (by decide) (by decide) (by decide)]
    rw [k1, k2, k4]
    by_cases h : a = aN W
    · rw [if_pos h, if_pos h, if_pos h, if_pos h, if_pos h, if_pos h, List.length_cons]
      refine ⟨rfl, rfl, fun i hi => ?_, rfl, fun i p hp => ?_⟩
      · rw [k3, h, if_pos ⟨by omega, by omega⟩, Nat.add_sub_cancel_left]
        by_cases hip : i < ps.length
        · rw [if_pos hip, List.getElem?_eq_getElem hip]
          exact hT i _ (List.getElem?_eq_getElem hip)
        · rw [if_neg hip, List.getElem?_eq_none (by omega)]
      · rw [k5, h]
        cases i with
        | zero =>
          simp only [List.getElem?_cons_zero, Option.some.injEq] at hp
          rw [if_neg (by omega), if_pos (by omega), hp]
        | succ i =>
          simp only [List.getElem?_cons_succ] at hp
          have hi := (List.getElem?_eq_some_iff.mp hp).1
          rw [if_pos ⟨by omega, by omega⟩, show 16 * aN W + (i + 1) - (16 * aN W + 1) = i by omega]
          exact hm i p hp
    · rw [if_neg h, if_neg h, if_neg h, if_neg h, if_neg h, if_neg h]
      obtain ⟨y1, y2, y3, y4, y5⟩ := m4 a (by omega)
      have hol := aWf_len hf (show a < aN W by omega)
      refine ⟨y1, y2, fun i hi => ?_, y4, fun i p hp => ?_⟩
      · rw [k3, if_neg (by omega)]
        exact y3 i hi
      · have hi := (List.getElem?_eq_some_iff.mp hp).1
        rw [k5, if_neg (by omega), if_neg (by omega)]
        exact y5 i p hp
  · intro a ha
    have ha' : a < aN W + 1 := ha
    have e6 : zg (zs (zs w 6 (aN W) 0) 7 (aN W) 0) 6 a = if a = aN W then 0 else zg t 6 a := by
      rw [zgz_ne (by decide), zg_zs, if_pos rfl, b3 6 a (by decide), zgz_ne (by decide), zgz_ne (by decide), a3 6 a (by decide), uo 6 _ (by decide) (by decide) (by decide)]
    have e7 : zg (zs (zs w 6 (aN W) 0) 7 (aN W) 0) 7 a = if a = aN W then 0 else zg t 7 a := by
      rw [zg_zs, if_pos rfl, zgz_ne (by decide), b3 7 a (by decide), zgz_ne (by decide), zgz_ne (by decide), a3 7 a (by decide), uo 7 _ (by decide) (by decide) (by decide)]
    rw [e6, e7]
    by_cases h : a = aN W
    · rw [if_pos h, if_pos h]
      have ez : ∀ (q : Nat × Int32 × Int32 → Bool), q (0, 0, 0) = false → aB (fun i => q (aS (aNew W k ps r) a i)) 16 = 0 := by
        intro q hq
        have : (fun i => q (aS (aNew W k ps r) a i)) = fun _ => false := by
          funext i
          have e : aS (aNew W k ps r) a i = (0, 0, 0) := if_pos h
          rw [e, hq]
        rw [this]
        decide
      exact ⟨(ez (fun z => decide (z.1 ≠ 0)) (by decide)).symm, (ez (fun z => decide (z.1 = 2)) (by decide)).symm⟩
    · rw [if_neg h, if_neg h]
      have e : ∀ i, aS (aNew W k ps r) a i = aS W a i := fun i => if_neg h
      have := m5 a (by omega)
      simp only [e]
      exact this
  · intro a i ha hi hz
    have ha' : a < aN W + 1 := ha
    by_cases h : a = aN W
    · have e : aS (aNew W k ps r) a i = (0, 0, 0) := if_pos h
      rw [e] at hz
      exact absurd rfl hz
    · have e : aS (aNew W k ps r) a i = aS W a i := if_neg h
      rw [e] at hz ⊢
      rw [zgz_ne (by decide), zgz_ne (by decide), b3 8 _ (by decide), zgz_ne (by decide), zgz_ne (by decide), a3 8 _ (by decide), uo 8 _ (by decide) (by decide) (by decide), zgz_ne (by decide), zgz_ne (by decide), b3 9 _ (by decide), zgz_ne (by decide), zgz_ne (by decide), a3 9 _ (by decide), uo 9 _ (by decide) (by decide) (by decide)]
      exact m6 a i (by omega) hi hz
  · intro x y hx hy
    show zg (zs (zs w 6 (aN W) 0) 7 (aN W) 0) 10 (32 * y + x) = aWy W x y
    rw [zgz_ne (by decide), zgz_ne (by decide), b3 10 _ (by decide), zgz_ne (by decide), zgz_ne (by decide), a3 10 _ (by decide), uo 10 _ (by decide) (by decide) (by decide)]
    exact m7 x y hx hy
  · rw [zgz_ne (by omega), zgz_ne (by omega), b3 p x (by omega), zgz_ne (by omega), zgz_ne (by omega), a3 p x (by omega), uo p x (by omega) (by omega) (by omega)]
  · rw [zgz_ne (by decide), zgz_ne (by decide), b3 0 x (by decide), zgz_ne (by decide), zgz_ne (by decide), a3 0 x (by decide), u0, if_neg hx]
  · rw [zgl_zs, zgl_zs, b4, zgl_zs, zgl_zs, a4, ul]
