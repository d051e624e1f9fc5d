/-! a day; days -/
/-- a send among the days -/
theorem dI_send {n0 o sl kk : Nat} {s0 t0 s t : zS} (D : Nat) (x : Int32) (h : dI n0 s0 t0 s t) (ho : o < n0) (hs : sl < 16) (hkk : kk ≤ 1000) (h13 : zg s0 1 3 = nI kk) : ∃ j s' v t' g t2, zcall zMs skX (D + 618) 29 [.inr (.inr 1), .inl (nI o), .inl (nI sl), .inl x] s = some (some (.inl j), s') ∧ zcall zMs skM (D + 619) 179 [.inr (.inr 0), .inl (nI sl), .inl x] (mBeg t o) = some (some (.inl v), t') ∧ zcall zMs skM (D + 619) 188 [.inr (.inr 0), .inl v] t' = some (some (.inl g), t2) ∧ dI n0 s0 t0 s' t2 := by
  obtain ⟨W, hf, hnn, q1, q2, ⟨r, hr, q3, q3'⟩, q4, q5, q6, q7, q8, q9, q10⟩ := h
  rw [← hnn] at ho
  obtain ⟨p1, p2, p3, p4⟩ := eSnd_ok (o := o) (r := r) sl x hf hr
  obtain ⟨s', g1, g2⟩ := cSend (d := D + 608) (x := x) hf ho hkk q1 q3 hr (q4.trans h13) hs
  have hm := mSend1 (r := r) (D + 9) x hf ho q2 q3' hr hs
  rw [show D + 9 + 610 = D + 619 by omega] at hm
  obtain ⟨v, t', e1, e28, e29, ev0, ⟨t2, e2, e3⟩, -⟩ := mFin hf q2 hm p1 (D + 617)
  generalize eSnd W o sl r x = R at p1 p2 p3 p4 g1 g2 e1 e28 e29 ev0 e2 e3
  obtain ⟨c3, c17⟩ := cFrm_nil g2 p4
  obtain ⟨x1, x2, x3, -, -, x6, x7, x8, x9⟩ := g2
  obtain ⟨y1, y2, y3, y4, y5, y6, y7, y8⟩ := e3
  refine ⟨_, s', v, t', _, t2, g1, e1, e2, eFin W o R, eFin_f hf p2, hnn, x1, y1, ⟨R.2.2.2.1, p2.2.1, x3, y3⟩, c3.trans h13.symm, fun i hi => (c17 i hi).trans (q5 i hi), ?_, fun p i => (x9 p i).trans (q7 p i), ?_, ?_, fun p i => (y8 p i).trans (q10 p i)⟩
  · intro p hp i
    exact (x8 p (by omega) (by omega) (by omega) (by omega) (by omega) (by omega) (by omega) (by omega) (by omega) i).trans (q6 p hp i)
  · intro p hp i
    exact (y6 p (by omega) (by omega) (by omega) (by omega) (by omega) (by omega) (by omega) i).trans (q8 p hp i)
  · intro i a b c d e
    exact (y7 i b c d e).trans (q9 i a b c d e)
theorem dlit16 : (16 : Int32) = nI 16 := rfl
theorem dlit3 : (3 : Int32) = nI 3 := by decide
theorem dlit100 : (100 : Int32) = nI 100 := rfl
theorem dI_day {n0 kk : Nat} {s0 t0 s t : zS} (D : Nat) (h : dI n0 s0 t0 s t) (hn0 : 0 < n0) (hkk : kk ≤ 1000) (h13 : zg s0 1 3 = nI kk) : ∃ s' t', zcall zMs skX (D + 619) 120 [.inr (.inr 0)] s = some (none, s') ∧ (∀ (N n2 i : Nat), i < n2 → n2 ≤ 40 → zexec skM (zcall zMs skM (D + 619)) zT_M_days 1 (N + 1) 21 [some (.inr (.inr 0)), some (.inl (nI n2)), some (.inl (nI i)), none, none, none] [] t = zexec skM (zcall zMs skM (D + 619)) zT_M_days 1 N 21 [some (.inr (.inr 0)), some (.inl (nI n2)), some (.inl (nI (i + 1))), none, none, none] [] t') ∧ dI n0 s0 t0 s' t' := by
  obtain ⟨W, hf, hnn, hX, hM, -⟩ := id h
  have hn16 : n0 ≤ 16 := by rw [← hnn]; exact hf.1
  have hs0 : zg s 2 0 = nI n0 := by rw [← hnn]; exact hX.1
  have ht0 : zg t 0 0 = nI n0 := by rw [← hnn]; exact hM.1
  obtain ⟨o, v1, ho, a1, b1, -, d1⟩ := dI_draw (D + 617) h hn0 (by omega)
  obtain ⟨sl, v2, hsl, a2, b2, -, d2⟩ := dI_draw (n := 16) (D + 617) d1 (by omega) (by omega)
  obtain ⟨de, v3, hde, a3, b3, -, d3⟩ := dI_draw (n := 3) (D + 617) d2 (by omega) (by omega)
  have ks : zg (zs (zs (zs s 2 2 v1) 2 2 v2) 2 2 v3) 3 o = zg s 3 o := rfl
  have kt : zg (zs (zs (zs t 0 12 v1) 0 12 v2) 0 12 v3) 1 o = zg t 1 o := rfl
  generalize zs (zs (zs s 2 2 v1) 2 2 v2) 2 2 v3 = s3 at a3 d3 ks
  generalize zs (zs (zs t 0 12 v1) 0 12 v2) 0 12 v3 = t3 at b3 d3 kt
  have how : o < aN W := by rw [hnn]; exact ho
  have h16 : o < 16 := by omega
  have hk1 : zg s 3 o = nI (aK W o) := (hX.2.2.2.1 o how).1
  have hk2 : zg t 1 o = nI (aK W o) := (hM.2.2.2.1 o how).1
  have hk4 := (hf.2.2.1 o how).1
  rw [aX_X_liveDay]
  unfold bX_X_liveDay_0
  rw [hs0, a1, zcI_some, dlit16, a2, zcI_some, dlit3, a3, zcI_some, zin_nI (show o < 16 by omega) (by decide), nI_clamp (show o < 2 ^ 31 by omega), ks, hk1]
  have hde3 : de = 0 ∨ de = 1 ∨ de = 2 := by omega
  have b1' := b1 (D + 618)
  have b2' := b2 (D + 618)
  have b3' := b3 (D + 618)
  have body : ∀ (N n2 i : Nat), i < n2 → n2 ≤ 40 → zexec skM (zcall zMs skM (D + 619)) zT_M_days 1 (N + 1) 21 [some (.inr (.inr 0)), some (.inl (nI n2)), some (.inl (nI i)), none, none, none] [] t = (if ¬ nI de = (1 : Int32) then (if nI (aK W o) = nI 3 then zexec skM (zcall zMs skM (D + 619)) zT_M_days 1 N 21 [some (.inr (.inr 0)), some (.inl (nI n2)), some (.inl (nI (i + 1))), none, none, none] [] t3 else (if ¬ nI de = 0 then (zcV (zcall zMs skM (D + 619) 165 [.inr (.inr 0), .inl (nI o), .inl (nI sl)] t3) fun s109 => zexec skM (zcall zMs skM (D + 619)) zT_M_days 1 N 21 [some (.inr (.inr 0)), some (.inl (nI n2)), some (.inl (nI (i + 1))), none, none, none] [] s109) else (zcI (zcall zMs skM (D + 619) 205 [.inr (.inr 0), .inl (nI 100)] t3) fun r111 s110 => zcV (zcall zMs skM (D + 619) 162 [.inr (.inr 0), .inl (nI o), .inl (nI sl), .inl (0 : Int32), .inl (0 : Int32), .inl r111] s110) fun s112 => zexec skM (zcall zMs skM (D + 619)) zT_M_days 1 N 21 [some (.inr (.inr 0)), some (.inl (nI n2)), some (.inl (nI (i + 1))), none, none, none] [] s112))) else (zcV (zcall zMs skM (D + 619) 187 [.inr (.inr 0), .inl (nI o)] t3) fun s113 => zcI (zcall zMs skM (D + 619) 205 [.inr (.inr 0), .inl (nI 100)] s113) fun r115 s114 => zcI (zcall zMs skM (D + 619) 179 [.inr (.inr 0), .inl (nI sl), .inl r115] s114) fun r117 s116 => zcI (zcall zMs skM (D + 619) 188 [.inr (.inr 0), .inl r117] s116) fun r119 s118 => zexec skM (zcall zMs skM (D + 619)) zT_M_days 1 N 21 [some (.inr (.inr 0)), some (.inl (nI n2)), some (.inl (nI (i + 1))), none, none, none] [] s118)) := by
    intro N n2 i hi h40
    rw [hM_M_days_21]
    unfold bM_M_days_21
    rw [if_neg (nI_ge hi (by omega)), ht0, b1', zcI_some, dlit16, b2', zcI_some, dlit3, b3', zcI_some, zin_nI (show o < 16 by omega) (by decide), nI_clamp (show o < 2 ^ 31 by omega), kt, hk2, nI_1]
    rfl
  obtain ⟨x, v4, hx, a4, b4, c4, d4⟩ := dI_draw (n := 100) (D + 617) d3 (by omega) (by omega)
  have b4' := b4 (D + 618)
  have c4' := c4 o (D + 618)
  obtain ⟨W3, hf3, hn3, hX3, hM3, -⟩ := id d3
  have ho3 : o < aN W3 := by rw [hn3]; exact ho
  obtain ⟨W4, hf4, hn4, hX4, hM4, -⟩ := id d4
  have ho4 : o < aN W4 := by rw [hn4]; exact ho
  by_cases hd1 : de = 1
  · obtain ⟨j, s', v, t', g, t2, g1, g2, g3, g4⟩ := dI_send D (nI x) d4 ho hsl hkk h13
    refine ⟨s', t2, ?_, ?_, g4⟩
    · have : nI de = (1 : Int32) := by rw [hd1]; decide
      rw [this]
      by_cases h3 : nI (aK W o) = nI 3
      · rw [if_neg (show ¬ ¬ nI (aK W o) = nI 3 from fun c => c h3), if_neg (show ¬ ¬ (1 : Int32) = 1 by decide), dlit100, a4, zcI_some, g1, zcI_some]
      · rw [if_pos h3, if_neg (show ¬ ¬ (1 : Int32) = 1 by decide), dlit100, a4, zcI_some, g1, zcI_some]
    · intro N n2 i hi h40
      have e1 : nI de = (1 : Int32) := by rw [hd1]; decide
      rw [body N n2 i hi h40, if_neg (show ¬ ¬ nI de = (1 : Int32) from fun c => c e1), sM_begins (D + 617) o t3, zcV_some, c4', zcI_some, g2, zcI_some, g3, zcI_some]
  · have hne1 : ¬ nI de = (1 : Int32) := fun c => hd1 ((nI_i3 (by omega) 1 (by omega)).mp c)
    by_cases h3 : aK W o = 3
    · refine ⟨s3, t3, ?_, ?_, d3⟩
      · rw [if_neg (show ¬ ¬ nI (aK W o) = nI 3 from fun c => c (by rw [h3])), if_pos hne1]
        rcases hde3 with rfl | rfl | rfl
        · rw [if_neg (show ¬ ¬ nI 0 = 0 by decide), if_pos (show ¬ (1 : Int32) = 0 by decide), if_pos (show ¬ nI 0 = (2 : Int32) by decide)]
        · exact absurd rfl hd1
        · rw [if_pos (show ¬ nI 2 = 0 by decide), if_neg (show ¬ ¬ nI 2 = (2 : Int32) by decide), if_pos (show ¬ (1 : Int32) = 0 by decide)]
      · intro N n2 i hi h40
        rw [body N n2 i hi h40, if_pos hne1, if_pos (by rw [h3])]
    · have h3n : ¬ nI (aK W o) = nI 3 := fun c => h3 ((nI_i3 (by omega) 3 (by omega)).mp c)
      rcases hde3 with rfl | rfl | rfl
      · have dn : dI n0 s0 t0 (xput (zs s3 2 2 v4) o sl 1 0 (nI x)) (mput (zs t3 0 12 v4) o sl (aB (fun b => if b = sl then true else decide ((aS W4 o b).1 ≠ 0)) 16) (aB (fun b => if b = sl then decide ((1 : Nat) = 2) else decide ((aS W4 o b).1 = 2)) 16) 0 (nI x)) := by
          have hput := aX_put (f := 0) (v := nI x) (t := 1) (o := o) hX4 hsl
          rw [nIe1] at hput
          refine dI_slot (W := W4) (W' := aSet W4 o sl (1, 0, nI x)) d4 (aWf_set hf4 (show (1 : Nat) ≤ 2 by decide) (fun h => absurd h (show ¬ (1 : Nat) = 2 by decide)) (fun _ => rfl)) hn4 hput (aMz_put hM4 (Or.inl rfl) hsl) ?_ (fun _ _ => rfl) ?_ (fun _ _ => rfl)
          · intro p a b c i
            unfold xput
            rw [zgz_ne c, zgz_ne b, zgz_ne a]
          · intro p a b c d i
            unfold mput
            rw [zgz_ne d, zgz_ne c, zgz_ne b, zgz_ne a]
        refine ⟨_, _, ?_, ?_, dn⟩
        · rw [if_pos h3n, if_pos hne1, if_neg (show ¬ ¬ nI 0 = 0 by decide), if_neg (show ¬ ¬ (0 : Int32) = 0 by decide), dlit100, a4, zcI_some, sX_putValue _ o sl (nI x) _ h16 hsl, zcV_some]
        · intro N n2 i hi h40
          rw [body N n2 i hi h40, if_pos hne1, if_neg h3n, if_neg (show ¬ ¬ nI 0 = 0 by decide), b4', zcI_some, sM_hold0 (W := W4) _ o sl (nI x) _ hf4 (aM_ofz hf4 hM4) ho4 hsl, zcV_some]
      · exact absurd rfl hd1
      · have dn : dI n0 s0 t0 (zs s3 8 (o * 16 + sl) 0) (mdrop t3 o (aB (fun b => if b = sl then false else decide ((aS W3 o b).1 ≠ 0)) 16) (aB (fun b => if b = sl then false else decide ((aS W3 o b).1 = 2)) 16)) := by
          refine dI_slot (W := W3) (W' := aSet W3 o sl (0, 0, 0)) d3 (aWf_set hf3 (show (0 : Nat) ≤ 2 by decide) (fun h => absurd h (show ¬ (0 : Nat) = 2 by decide)) (fun h => absurd h (show ¬ (0 : Nat) = 1 by decide))) hn3 (aX_drop hX3 hsl) (aMz_drop hM3 hsl) ?_ (fun _ _ => rfl) ?_ (fun _ _ => rfl)
          · intro p a b c i
            rw [zgz_ne a]
          · intro p a b c d i
            unfold mdrop
            rw [zgz_ne b, zgz_ne a]
        refine ⟨_, _, ?_, ?_, dn⟩
        · rw [if_pos h3n, if_pos hne1, if_pos (show ¬ nI 2 = 0 by decide), if_neg (show ¬ ¬ nI 2 = (2 : Int32) by decide), if_neg (show ¬ ¬ (0 : Int32) = 0 by decide), sX_drop _ o sl _ h16 hsl, zcV_some]
        · intro N n2 i hi h40
          rw [body N n2 i hi h40, if_pos hne1, if_neg h3n, if_pos (show ¬ nI 2 = 0 by decide), sM_drops (W := W3) _ o sl _ hf3 (aM_ofz hf3 hM3) ho3 hsl, zcV_some]
theorem dLoop {n0 kk n2 : Nat} {s0 t0 : zS} (D : Nat) (hn0 : 0 < n0) (hkk : kk ≤ 1000) (h13 : zg s0 1 3 = nI kk) (h40 : n2 ≤ 40) : ∀ (f i N : Nat) (s t : zS), i + f = n2 → f < N → dI n0 s0 t0 s t → ∃ r s' t', zexec skX (zcall zMs skX (D + 619)) zT_X_days 1 N 23 [some (.inr (.inr 0)), some (.inl (nI n2)), some (.inl (nI i))] [] s = some (some (.inl r), s') ∧ zexec skM (zcall zMs skM (D + 619)) zT_M_days 1 N 21 [some (.inr (.inr 0)), some (.inl (nI n2)), some (.inl (nI i)), none, none, none] [] t = some (some (.inl r), t') ∧ dI n0 s0 t0 s' t' := by
  intro f
  induction f with
  | zero =>
    intro i N s t hi hN hI
    obtain ⟨N, rfl⟩ : ∃ N', N = N' + 1 := ⟨N - 1, by omega⟩
    obtain ⟨W, hf, hnn, hX, hM, -⟩ := id hI
    refine ⟨aSum (fun o => zBc (aB (aHas W o) 16)) (aN W), s, t, ?_, ?_, hI⟩
    · rw [hX_X_days_23]
      unfold bX_X_days_23
      rw [if_pos (nI_le (by omega) (by omega)), sX_slotsOfAll (D + 616) s hf hX, zcI_some]
    · rw [hM_M_days_21]
      unfold bM_M_days_21
      rw [if_pos (nI_le (by omega) (by omega)), sM_allSlots (D + 617) t hf (aM_ofz hf hM), zcI_some]
  | succ f ih =>
    intro i N s t hi hN hI
    obtain ⟨N, rfl⟩ : ∃ N', N = N' + 1 := ⟨N - 1, by omega⟩
    obtain ⟨s1, t1, g1, g2, g3⟩ := dI_day D hI hn0 hkk h13
    obtain ⟨r, s', t', e1, e2, e3⟩ := ih (i + 1) N s1 t1 (by omega) (by omega) g3
    refine ⟨r, s', t', ?_, ?_, e3⟩
    · rw [hX_X_days_23]
      unfold bX_X_days_23
      rw [if_neg (nI_ge (show i < n2 by omega) (by omega)), g1, zcV_some, nI_1]
      exact e1
    · rw [g2 N n2 i (by omega) h40]
      exact e2
theorem sim_days (a1 : Int32) : zSim aRel 112 207 [.inl a1] := by
  intro s t h
  obtain ⟨D, hd⟩ := zDp_620
  rw [hd]
  obtain ⟨W, hf, hX, hM, h4, h5, h6⟩ := id h
  have hn := hf.1
  have hMz := aMz_of hf hM
  by_cases h0 : aN W = 0
  · refine ⟨-5, _, _, ?_, ?_, aRel_refuse 5 h⟩
    · rw [aX_X_days]
      unfold bX_X_days_0
      rw [hX.1, h0, if_neg (show ¬ ¬ nI 0 = 0 by decide), sX_refuse5, zcI_some]
    · rw [aM_M_days]
      unfold bM_M_days_0
      rw [hMz.1, h0, if_neg (show ¬ ¬ nI 0 = 0 by decide), sM_no5, zcI_some]
  · have hn0 : ¬ nI (aN W) = 0 := nI_ne0 (by omega) (by omega)
    have e1 : (1 : Int32).toInt = 1 := by decide
    have e40 : (40 : Int32).toInt = 40 := by decide
    by_cases hw : (1 : Int32).toInt ≤ a1.toInt ∧ a1.toInt ≤ (40 : Int32).toInt
    · have hw2 := hw
      rw [e1, e40] at hw2
      obtain ⟨n2, hn2, rfl⟩ : ∃ n2, n2 < 41 ∧ a1 = nI n2 := zIn_ex (n := 41) (by unfold zIn; omega) (by omega)
      obtain ⟨-, -, -, -, kk, hkk, r5, -, -⟩ := id h5
      have hI : dI (aN W) s t (zs s 1 4 0) (zs t 0 29 0) := ⟨W, hf, rfl, aX_fr (fun p a b i => zgz_ne (by omega)) hX, aMz_fr (fun p a b i => zgz_ne (by omega)) rfl rfl rfl hMz, ⟨0, by omega, zgz_eq.trans nI_0.symm, zgz_eq.trans nI_0.symm⟩, rfl, fun i hi => rfl, fun p hp i => zgz_ne (by omega), fun _ _ => rfl, fun p hp i => zgz_ne (by omega), fun i a b c d e => zgz_nj c, fun _ _ => rfl⟩
      obtain ⟨r', s', t', g1, g2, g3⟩ := dLoop (n0 := aN W) (n2 := n2) D (by omega) hkk r5 (by omega) n2 0 19999 _ _ (by omega) (by omega) hI
      rw [nI_0] at g1 g2
      refine ⟨r', s', t', ?_, ?_, dI_rel g3 h4 h5 h6⟩
      · rw [aX_X_days]
        unfold bX_X_days_0
        rw [hX.1, if_pos hn0, if_neg (by rw [zlt, e1]; omega), if_pos (by rw [zle, e40]; omega), aX_U_beginAct]
        unfold bX_U_beginAct_0
        dsimp only
        rw [zcV_some]
        exact g1
      · rw [aM_M_days]
        unfold bM_M_days_0
        rw [hMz.1, if_pos hn0, sM_within, zcI_some, zBp_t hw, if_pos o1]
        exact g2
    · refine ⟨-6, _, _, ?_, ?_, aRel_refuse 6 h⟩
      · rw [aX_X_days]
        unfold bX_X_days_0
        rw [hX.1, if_pos hn0]
        rw [e1, e40] at hw
        by_cases hl : a1 < 1
        · rw [if_pos hl, sX_refuse6, zcI_some]
        · have hl2 := hl
          rw [zlt, e1] at hl2
          rw [if_neg hl, if_neg (by rw [zle, e40]; omega), sX_refuse6, zcI_some]
      · rw [aM_M_days]
        unfold bM_M_days_0
        rw [hMz.1, if_pos hn0, sM_within, zcI_some, zBp_f hw, if_neg z0, sM_no6, zcI_some]
