/-! READ -/
theorem laX {k m : Nat} (d : Nat) (hk : k < 8) (hm : m ≤ 160) : ∀ (f i K : Nat) (s : zS), i + f = m → f < K → zg s 42 2 = nI m → ∃ s', zexec skX (zcall zMs skX (d + 1)) zT_D_lay 0 K 8 [some (.inr (.inr 42)), some (.inr (.inr 32)), some (.inl (nI k)), some (.inl (nI i))] [] s = some (none, s') ∧ (∀ j, i ≤ j → j < m → zg s' 43 j = Int64.toInt32 (zgl s 35 (k * 160 + j))) ∧ (∀ j, j < i → zg s' 43 j = zg s 43 j) ∧ (∀ p x, p ≠ 43 → zg s' p x = zg s p x) ∧ (∀ p x, zgl s' p x = zgl s p x) := by
  intro f
  induction f with
  | zero =>
    intro i K s hi hK h2
    obtain ⟨K, rfl⟩ : ∃ K', K = K' + 1 := ⟨K - 1, by omega⟩
    refine ⟨s, ?_, fun j h1 h3 => by omega, fun _ _ => rfl, fun _ _ _ => rfl, fun _ _ => rfl⟩
    rw [hX_D_lay_8]
    unfold bX_D_lay_8
    rw [h2, if_pos (nI_le (by omega) (by omega))]
  | succ f ih =>
    intro i K s hi hK h2
    obtain ⟨K, rfl⟩ : ∃ K', K = K' + 1 := ⟨K - 1, by omega⟩
    obtain ⟨s', r1, r2, r3, r4, r5⟩ := ih (i + 1) K (zs s 43 i (Int64.toInt32 (zgl s 35 (k * 160 + i)))) (by omega) (by omega) ((zgz_ne (by decide)).trans h2)
    refine ⟨s', ?_, fun j h1 h3 => ?_, fun j hj => ?_, fun p x hp => (r4 p x hp).trans (zgz_ne hp), fun p x => r5 p x⟩
    · rw [hX_D_lay_8]
      unfold bX_D_lay_8
      rw [h2, if_neg (nI_ge (show i < m by omega) (by omega)), sX_intAt d k i s hk (by omega), zcI_some, zin_nI (show i < 160 by omega) (by decide), nI_clamp (show i < 2 ^ 31 by omega), nI_1]
      exact r1
    · by_cases hj : j = i
      · rw [hj, r3 i (by omega), zgz_eq]
      · exact (r2 j (by omega) h3).trans rfl
    · rw [r3 j (by omega), zgz_nj (by omega)]
theorem aX_cut {W0 W : aW} {s : zS} (hE : rEx W0 W) (hX : aX 2 s W) : aX 2 (zs s 2 0 (nI (aN W0))) W0 := by
  obtain ⟨g1, g2, g3, g4, g5⟩ := hE
  obtain ⟨x1, x2, x3, x4, x5, x6⟩ := hX
  refine ⟨zgz_eq, (zgz_nj (by decide)).trans (by rw [x2, g3]), (zgz_nj (by decide)).trans (by rw [x3, g5]), fun o ho => ?_, fun o i ho hi => ?_, fun w u hw hu => ?_⟩
  · obtain ⟨e1, e2, e3, e4⟩ := g2 o ho
    obtain ⟨y1, y2, y3, y4, y5⟩ := x4 o (by omega)
    rw [e1] at y1
    rw [e2] at y2 y3
    rw [e3] at y4 y5
    exact ⟨(zgz_ne (by decide)).trans y1, (zgz_ne (by decide)).trans y2, fun i p hp => (zgz_ne (by decide)).trans (y3 i p hp), (zgz_ne (by decide)).trans y4, fun i p hp => (zgz_ne (by decide)).trans (y5 i p hp)⟩
  · obtain ⟨y1, y2⟩ := x5 o i (by omega) hi
    rw [(g2 o ho).2.2.2 i] at y1 y2
    exact ⟨(zgz_ne (by decide)).trans y1, fun h => ⟨(zgz_ne (by decide)).trans (y2 h).1, (zgz_ne (by decide)).trans (y2 h).2⟩⟩
  · rw [← g4 w u]
    exact (zgz_ne (by decide)).trans (x6 w u (by rw [g3]; exact hw) hu)
theorem aMz_cut {W0 W : aW} {t : zS} (hE : rEx W0 W) (hM : aMz t W) : aMz (zs t 0 0 (nI (aN W0))) W0 := by
  obtain ⟨g1, g2, g3, g4, g5⟩ := hE
  obtain ⟨x1, x2, x3, x4, x5, x6, x7⟩ := hM
  refine ⟨zgz_eq, (zgz_nj (by decide)).trans (by rw [x2, g3]), (zgz_nj (by decide)).trans (by rw [x3, g5]), fun o ho => ?_, fun o ho => ?_, fun o i ho hi => ?_, fun w u hw hu => ?_⟩
  · obtain ⟨e1, e2, e3, e4⟩ := g2 o ho
    obtain ⟨y1, y2, y3, y4, y5⟩ := x4 o (by omega)
    rw [e1] at y1
    rw [e2] at y2 y3
    rw [e3] at y4 y5
    exact ⟨(zgz_ne (by decide)).trans y1, (zgz_ne (by decide)).trans y2, fun i hi => (zgz_ne (by decide)).trans (y3 i hi), (zgz_ne (by decide)).trans y4, fun i p hp => (zgz_ne (by decide)).trans (y5 i p hp)⟩
  · obtain ⟨y1, y2⟩ := x5 o (by omega)
    have e : aS W o = aS W0 o := funext (g2 o ho).2.2.2
    rw [e] at y1 y2
    exact ⟨(zgz_ne (by decide)).trans y1, (zgz_ne (by decide)).trans y2⟩
  · have e := (g2 o ho).2.2.2 i
    intro h
    obtain ⟨y1, y2⟩ := x6 o i (by omega) hi (by rw [e]; exact h)
    rw [e] at y1 y2
    exact ⟨(zgz_ne (by decide)).trans y1, (zgz_ne (by decide)).trans y2⟩
  · rw [← g4 w u]
    exact (zgz_ne (by decide)).trans (x7 w u (by rw [g3]; exact hw) hu)
