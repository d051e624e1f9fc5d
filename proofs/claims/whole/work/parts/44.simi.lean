/-! way -/
theorem nmul6 (k : Nat) : nI k * (6 : Int32) = nI (k * 6) := by
  rw [show (6 : Int32) = nI 6 from rfl, pk_mul]
theorem nadd1 (k : Nat) : nI k + (1 : Int32) = nI (k + 1) := nI_add k 1
theorem nadd2 (k : Nat) : nI k + (2 : Int32) = nI (k + 2) := nI_add k 2
theorem nadd3 (k : Nat) : nI k + (3 : Int32) = nI (k + 3) := nI_add k 3
theorem nadd4 (k : Nat) : nI k + (4 : Int32) = nI (k + 4) := nI_add k 4
theorem nadd5 (k : Nat) : nI k + (5 : Int32) = nI (k + 5) := nI_add k 5
theorem n32a (k : Nat) : (32 : Int32) + nI k = nI (32 + k) := nI_add 32 k
theorem n64a (k : Nat) : (64 : Int32) + nI k = nI (64 + k) := nI_add 64 k
theorem n96a (k : Nat) : (96 : Int32) + nI k = nI (96 + k) := nI_add 96 k
theorem n128a (k : Nat) : (128 : Int32) + nI k = nI (128 + k) := nI_add 128 k
theorem n160a (k : Nat) : (160 : Int32) + nI k = nI (160 + k) := nI_add 160 k
def aV (a1 a2 a3 a4 a5 a6 : Int32) (u : Nat) : Int32 := if u = 0 then a1 else if u = 1 then a2 else if u = 2 then a3 else if u = 3 then a4 else if u = 4 then a5 else a6
def aAdd (W : aW) (v : Nat → Int32) : aW := (aN W, aK W, aP W, aO W, aS W, aWn W + 1, fun w u => if w = aWn W then v u else aWy W w u, aSd W)
def xway (s : zS) (n : Nat) (v : Nat → Int32) : zS := zs (zs (zs (zs (zs (zs (zs s 11 (n * 6) (v 0)) 11 (n * 6 + 1) (v 1)) 11 (n * 6 + 2) (v 2)) 11 (n * 6 + 3) (v 3)) 11 (n * 6 + 4) (v 4)) 11 (n * 6 + 5) (v 5)) 2 1 (nI (n + 1))
def mway (t : zS) (n : Nat) (v : Nat → Int32) : zS := zs (zs (zs (zs (zs (zs (zs t 10 n (v 0)) 10 (32 + n) (v 1)) 10 (64 + n) (v 2)) 10 (96 + n) (v 3)) 10 (128 + n) (v 4)) 10 (160 + n) (v 5)) 0 10 (nI (n + 1))
theorem zg_xway {s : zS} {n w u : Nat} {v : Nat → Int32} (hu : u < 6) : zg (xway s n v) 11 (w * 6 + u) = if w = n then v u else zg s 11 (w * 6 + u) := by
  unfold xway
  simp only [zg_zs, show (11 : Nat) = 2 ↔ False by decide, if_true, if_false]
  by_cases hw : w = n
  · subst hw
    rw [if_pos rfl]
    have hc : u = 0 ∨ u = 1 ∨ u = 2 ∨ u = 3 ∨ u = 4 ∨ u = 5 := by omega
    rcases hc with rfl | rfl | rfl | rfl | rfl | rfl <;> simp
  · rw [if_neg hw, if_neg (by omega), if_neg (by omega), if_neg (by omega), if_neg (by omega), if_neg (by omega), if_neg (by omega)]
theorem zg_mway {t : zS} {n w u : Nat} {v : Nat → Int32} (hu : u < 6) (hn : n < 32) (hw : w < 32) : zg (mway t n v) 10 (32 * u + w) = if w = n then v u else zg t 10 (32 * u + w) := by
  unfold mway
  simp only [zg_zs, show (10 : Nat) = 0 ↔ False by decide, if_true, if_false]
  by_cases he : w = n
  · subst he
    rw [if_pos rfl]
    have hc : u = 0 ∨ u = 1 ∨ u = 2 ∨ u = 3 ∨ u = 4 ∨ u = 5 := by omega
    rcases hc with rfl | rfl | rfl | rfl | rfl | rfl <;> simp
    all_goals (intro h; omega)
  · rw [if_neg he, if_neg (by omega), if_neg (by omega), if_neg (by omega), if_neg (by omega), if_neg (by omega), if_neg (by omega)]
theorem aX_way {s : zS} {W : aW} {v : Nat → Int32} (hX : aX 2 s W) : aX 2 (xway s (aWn W) v) (aAdd W v) := by
  obtain ⟨x1, x2, x3, x4, x5, x6⟩ := hX
  refine ⟨x1, rfl, x3, x4, x5, ?_⟩
  intro w u hw hu
  have e : aWy (aAdd W v) w u = if w = aWn W then v u else aWy W w u := rfl
  rw [e]
  refine (zg_xway hu).trans ?_
  by_cases he : w = aWn W
  · rw [if_pos he, if_pos he]
  · rw [if_neg he, if_neg he]
    have hw' : w < aWn W + 1 := hw
    exact x6 w u (by omega) hu
theorem aMz_way {t : zS} {W : aW} {v : Nat → Int32} (hn : aWn W < 32) (hM : aMz t W) : aMz (mway t (aWn W) v) (aAdd W v) := by
  obtain ⟨m1, m2, m3, m4, m5, m6, m7⟩ := hM
  refine ⟨m1, rfl, m3, m4, m5, m6, ?_⟩
  intro w u hw hu
  have hw' : w < aWn W + 1 := hw
  have e : aWy (aAdd W v) w u = if w = aWn W then v u else aWy W w u := rfl
  rw [e]
  refine (zg_mway hu hn (by omega)).trans ?_
  by_cases he : w = aWn W
  · rw [if_pos he, if_pos he]
  · rw [if_neg he, if_neg he]
    exact m7 w u (by omega) hu
theorem aWf_way {W : aW} {v : Nat → Int32} (hf : aWf W) (hn : aWn W < 32) (h : ∃ g p q r f, g < 8 ∧ p < aN W ∧ q < aN W ∧ r < 4 ∧ f < 10 ∧ v 0 = nI g ∧ v 1 = nI p ∧ v 2 = nI q ∧ v 3 = nI r ∧ v 4 = nI f) : aWf (aAdd W v) := by
  obtain ⟨f1, f2, f3, f4, f5⟩ := hf
  refine ⟨f1, hn, f3, f4, ?_⟩
  intro w hw
  have hw' : w < aWn W + 1 := hw
  have e : ∀ u, aWy (aAdd W v) w u = if w = aWn W then v u else aWy W w u := fun u => rfl
  simp only [e]
  by_cases he : w = aWn W
  · simp only [if_pos he]
    exact h
  · simp only [if_neg he]
    exact f5 w (by omega)
theorem aRel_way {s t : zS} {W : aW} {v : Nat → Int32} (hf : aWf W) (hX : aX 2 s W) (hM : aM (mFl t) W) (h4 : aSh (aN W) s t) (h5 : aRest s t) (h6 : aImg s t) (hn : aWn W < 32) (h : ∃ g p q r f, g < 8 ∧ p < aN W ∧ q < aN W ∧ r < 4 ∧ f < 10 ∧ v 0 = nI g ∧ v 1 = nI p ∧ v 2 = nI q ∧ v 3 = nI r ∧ v 4 = nI f) : aRel (xway s (aWn W) v) (mway t (aWn W) v) := by
  have hf' := aWf_way hf hn h
  refine ⟨aAdd W v, hf', aX_way hX, aM_ofz hf' (aMz_way hn (aMz_of hf hM)), ?_⟩
  refine aRel_fr ?_ (fun p i => rfl) ?_ ?_ (fun p i => rfl) h4 h5 h6
  · intro p hp j
    simp only [xway, zg_zs, show ¬ p = 2 by omega, show ¬ p = 11 by omega, if_false]
  · intro p hp j
    simp only [mway, zg_zs, show ¬ p = 0 by omega, show ¬ p = 10 by omega, if_false]
  · intro j hj
    simp only [mway, zg_zs, show ¬ j = 10 by omega, if_true, if_false, show (0 : Nat) = 10 ↔ False by decide]
theorem o1 : ¬ (1 : Int32) = 0 := by decide
theorem z0 : ¬ ¬ (0 : Int32) = 0 := by decide
theorem sX_isFullOfWays {n : Nat} (d : Nat) (s : zS) (e1 : zg s 2 1 = nI n) (hn : n ≤ 32) : zcall zMs skX (d + 1) 221 [.inr (.inr 2)] s = some (some (.inl (if n < 32 then (0 : Int32) else 1)), s) := by
  rw [aX_W_isFullOfWays]
  unfold bX_W_isFullOfWays_0
  rw [e1]
  by_cases h : n < 32
  · rw [if_pos h, if_pos (by rw [zlt, nI_toInt (by omega), show (32 : Int32).toInt = 32 by decide]; omega), zbo_0]
  · have h8 : n = 32 := by omega
    subst h8
    rw [if_neg (by decide), if_neg (by decide), zbo_1]
theorem sX_addWay {n : Nat} (d : Nat) (a1 a2 a3 a4 a5 a6 : Int32) (s : zS) (e1 : zg s 2 1 = nI n) (hn : n < 32) : zcall zMs skX (d + 1) 222 [.inr (.inr 2), .inl a1, .inl a2, .inl a3, .inl a4, .inl a5, .inl a6] s = some (some (.inl (nI n)), xway s n (aV a1 a2 a3 a4 a5 a6)) := by
  rw [aX_W_addWay]
  unfold bX_W_addWay_0
  rw [e1, nmul6, nadd1, nadd1, nadd2, nadd3, nadd4, nadd5]
  rw [zin_nI (by omega) (by omega), nI_clamp (by omega)]
  try dsimp only
  rw [zin_nI (by omega) (by omega), nI_clamp (by omega)]
  try dsimp only
  rw [zin_nI (by omega) (by omega), nI_clamp (by omega)]
  try dsimp only
  rw [zin_nI (by omega) (by omega), nI_clamp (by omega)]
  try dsimp only
  rw [zin_nI (by omega) (by omega), nI_clamp (by omega)]
  try dsimp only
  rw [zin_nI (by omega) (by omega), nI_clamp (by omega)]
  rfl
theorem sim_way (a1 a2 a3 a4 a5 a6 : Int32) : zSim aRel 105 194 [.inl a1, .inl a2, .inl a3, .inl a4, .inl a5, .inl a6] := by
  intro s t h
  obtain ⟨d, hd⟩ := zDp_8
  rw [hd]
  obtain ⟨W, hf, hX, hM, q4, q5, q6⟩ := id h
  have hn := hf.1
  have hwn := hf.2.1
  have e1 : zg s 2 1 = nI (aWn W) := hX.2.1
  have e2 : zg t 0 10 = nI (aWn W) := (aMz_of hf hM).2.1
  rw [aX_X_way, aM_M_way2]
  unfold bX_X_way_0 bM_M_way2_0
  rw [sX_isGeneric, sM_isGeneric, zcI_some, zcI_some]
  by_cases h1 : zIn a1 8
  · rw [zBp_t h1, if_neg (by decide), if_neg (by decide), sX_hasObject (n := aN W) _ a2 s hX.1 hf.1, sM_isOne (n := aN W) _ a2 t (aM_n hM) hf.1, zcI_some, zcI_some]
    by_cases h2 : zIn a2 (aN W)
    · rw [zBp_t h2, if_neg (by decide), if_neg (by decide), sX_hasObject (n := aN W) _ a3 s hX.1 hf.1, sM_isOne (n := aN W) _ a3 t (aM_n hM) hf.1, zcI_some, zcI_some]
      by_cases h3 : zIn a3 (aN W)
      · rw [zBp_t h3, if_pos (by decide), if_pos (by decide), sX_isSort, sM_in4, zcI_some, zcI_some]
        by_cases h4 : zIn a4 4
        · rw [zBp_t h4, if_neg (by decide), if_neg (by decide), sX_isFunction, sM_in10, zcI_some, zcI_some]
          by_cases h5 : zIn a5 10
          · by_cases h6 : (-99 : Int32).toInt ≤ a6.toInt ∧ a6.toInt ≤ (99 : Int32).toInt
            · rw [zBp_t h5, zBp_t (And.intro h5 h6), if_pos o1, if_neg o1, sM_in99, zcI_some, zBp_t h6, if_pos o1, e2, sX_isFullOfWays _ s e1 hwn, zcI_some]
              by_cases h7 : aWn W < 32
              · rw [if_pos h7, if_pos (show (0 : Int32) = 0 from rfl), sX_addWay _ a1 a2 a3 a4 a5 a6 s e1 h7, zcI_some, if_pos (by rw [show (32 : Int32) = nI 32 from rfl, nI_eq (by omega) (by omega)]; omega)]
                rw [nadd1, n32a, n64a, n96a, n128a, n160a]
                obtain ⟨g, hg, rfl⟩ := zIn_ex h1 (by omega)
                obtain ⟨p, hp, rfl⟩ := zIn_ex h2 (by omega)
                obtain ⟨q, hq, rfl⟩ := zIn_ex h3 (by omega)
                obtain ⟨r, hr, rfl⟩ := zIn_ex h4 (by omega)
                obtain ⟨f, hff, rfl⟩ := zIn_ex h5 (by omega)
                refine ⟨nI (aWn W), _, _, rfl, ?_, aRel_way (v := aV (nI g) (nI p) (nI q) (nI r) (nI f) a6) hf hX hM q4 q5 q6 h7 ⟨g, p, q, r, f, hg, hp, hq, hr, hff, rfl, rfl, rfl, rfl, rfl⟩⟩
                rw [zin_nI (by omega) (by omega), nI_clamp (by omega)]
                try dsimp only
                rw [zin_nI (by omega) (by omega), nI_clamp (by omega)]
                try dsimp only
                rw [zin_nI (by omega) (by omega), nI_clamp (by omega)]
                try dsimp only
                rw [zin_nI (by omega) (by omega), nI_clamp (by omega)]
                try dsimp only
                rw [zin_nI (by omega) (by omega), nI_clamp (by omega)]
                try dsimp only
                rw [zin_nI (by omega) (by omega), nI_clamp (by omega)]
                rfl
              · rw [if_neg h7, if_neg o1]
                have h8 : aWn W = 32 := by omega
                rw [h8, if_neg (by decide), sX_refuse7, sM_no7, zcI_some, zcI_some]
                exact ⟨_, _, _, rfl, rfl, aRel_refuse 7 h⟩
            · rw [zBp_t h5, zBp_f (fun e => h6 (And.right (a := zIn a5 10) e)), if_neg z0, if_neg o1, sM_in99, zcI_some, zBp_f h6, if_neg z0, sX_refuse6, sM_no6, zcI_some, zcI_some]
              exact ⟨_, _, _, rfl, rfl, aRel_refuse 6 h⟩
          · rw [zBp_f h5, zBp_f (fun e => h5 (And.left (b := (-99 : Int32).toInt ≤ a6.toInt ∧ a6.toInt ≤ (99 : Int32).toInt) e)), if_neg z0, if_pos (show (0 : Int32) = 0 from rfl), sX_refuse6, sM_no6, zcI_some, zcI_some]
            exact ⟨_, _, _, rfl, rfl, aRel_refuse 6 h⟩
        · rw [zBp_f h4, if_pos rfl, if_pos rfl, sX_refuse6, sM_no6, zcI_some, zcI_some]
          exact ⟨_, _, _, rfl, rfl, aRel_refuse 6 h⟩
      · rw [zBp_f h3, if_neg (by decide), if_neg (by decide), sX_refuse1, sM_no1, zcI_some, zcI_some]
        exact ⟨_, _, _, rfl, rfl, aRel_refuse 1 h⟩
    · rw [zBp_f h2, if_pos rfl, if_pos rfl, sX_refuse1, sM_no1, zcI_some, zcI_some]
      exact ⟨_, _, _, rfl, rfl, aRel_refuse 1 h⟩
  · rw [zBp_f h1, if_pos rfl, if_pos rfl, sX_refuse1, sM_no1, zcI_some, zcI_some]
    exact ⟨_, _, _, rfl, rfl, aRel_refuse 1 h⟩
