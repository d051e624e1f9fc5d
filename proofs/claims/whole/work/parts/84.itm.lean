/-! READ: an item -/
noncomputable def fnX (C : Nat → List zV → zS → zR) (x a : Int32) (s : zS) : zR := zcI (C 61 [.inr (.inr 2)] s) fun r121 s120 => if ¬ r121 = 0 then (zcI (C 27 [.inr (.inr 42), .inl a] s120) fun r123 s122 => zbo r123 <| some (some (.inl r123), s122)) else (zcI (C 10 [.inr (.inr 36), .inr (.inr 2)] s120) fun r125 s124 => if ¬ r125 = 0 then (zcI (C 62 [.inr (.inr 2), .inl x, .inr (.inr 36)] (zs s124 42 0 ((zg s124 42 0) + (1 : Int32)))) fun r128 s127 => zcI (C 20 [.inr (.inr 42), .inr (.inr 2), .inl r128] s127) fun r130 s129 => zbo r130 <| some (some (.inl r130), s129)) else (zcI (C 27 [.inr (.inr 42), .inl a] s124) fun r132 s131 => zbo r132 <| some (some (.inl r132), s131)))
noncomputable def fnM (C : Nat → List zV → zS → zR) (a x n : Int32) (t : zS) : zR := if (zg t 0 0) = (16 : Int32) then (zbo (0 : Int32) <| some (some (.inl (0 : Int32)), zs t 0 18 a)) else (zcI (C 144 [.inr (.inr 0), .inr (.inr 14), .inl (0 : Int32), .inl n] t) fun r115 s114 => if ¬ r115 = 0 then (zcI (C 146 [.inr (.inr 0), .inl x, .inl n] s114) fun r117 s116 => zcI (C 158 [.inr (.inr 0), .inl r117] s116) fun r119 s118 => zbo r119 <| some (some (.inl r119), s118)) else (zbo (0 : Int32) <| some (some (.inl (0 : Int32)), zs s114 0 18 a)))
theorem sX_full {W : aW} {s : zS} (d : Nat) (hf : aWf W) (hX : aX 2 s W) : zcall zMs skX (d + 1) 61 [.inr (.inr 2)] s = some (some (.inl (zBp (¬ aN W < 16))), s) := by
  have hn := hf.1
  rw [aX_W_isFull]
  unfold bX_W_isFull_0
  rw [hX.1]
  by_cases hl : aN W < 16
  · rw [if_pos (show nI (aN W) < (16 : Int32) from nI_lt (b := 16) hl (by decide)), zbo_0, zBp_f (fun c => c hl)]
  · rw [if_neg (show ¬ nI (aN W) < (16 : Int32) from nI_nlt (a := aN W) (b := 16) (by omega) (by omega)), zbo_1, zBp_t hl]
theorem rv_new {k m : Nat} {T : Nat → Int32} {W0 W W' : aW} {s0 t0 s t s' t' : zS} {a : Nat} (h : rV k m T W0 s0 t0 W a s t) (hf : aWf W') (hX : aX 2 s' W') (hM : aMz t' W') (hE : rEx W0 W') (hN : aN W' = aN W + 1) (hs : ∀ p i, (p < 2 ∨ 12 ≤ p) → (p ≠ 42 ∨ i ≠ 0) → zg s' p i = zg s p i) (h42 : zg s' 42 0 = zg s 42 0 + 1) (hsl : ∀ p i, zgl s' p i = zgl s p i) (ht : ∀ p i, 10 < p → zg t' p i = zg t p i) (ht0 : ∀ i, i ≠ 0 → zg t' 0 i = zg t 0 i) (htl : ∀ p i, zgl t' p i = zgl t p i) : rV k m T W0 s0 t0 W' a s' t' := by
  obtain ⟨h1, h2, h3, h4, h5, h6, ⟨x1, x2, x3⟩, ⟨m1, m2, m3, m4⟩, h9, h10, h11⟩ := h
  have hle := h4.1
  refine ⟨hf, hX, hM, hE, rFx_t h5 ⟨fun p e i => hs p i (by omega) (by omega), hsl⟩, rFm_t h6 ⟨fun p e _ _ i => ht p i e, fun i e _ _ _ _ => ht0 i e, htl⟩, ⟨(hs 42 2 (by decide) (by decide)).trans x1, (hs 42 3 (by decide) (by decide)).trans x2, fun i hi => (hs 43 i (by omega) (by omega)).trans (x3 i hi)⟩, ⟨(ht0 17 (by decide)).trans m1, (ht 12 k (by decide)).trans m2, fun i hi => by rw [htl]; exact m3 i hi, (ht0 18 (by decide)).trans m4⟩, h9, (hs 42 4 (by decide) (by decide)).trans h10, ?_⟩
  rw [h42, h11, nI_1, hN]
  congr 1
  omega
theorem jk_fin {k m : Nat} {T : Nat → Int32} {W0 W : aW} {s0 t0 s t : zS} {a b c : Nat} {ps : List Nat} (d e : Nat) (hk : k < 8) (hm : m ≤ 160) (ha : a ≤ m) (hc : c < 4) (hv : rV k m T W0 s0 t0 W b s t) (hTx : tX s ps) (hTm : mIn (zg t 14) ps) (hnd : ps.Nodup) (hl : ps.length ≤ 3) (hps : ∀ p, p ∈ ps → p < aN W) : (∃ W' b' s' t', fnX (zcall zMs skX (d + 7)) (nI c) (nI a) s = some (some (.inl 1), s') ∧ fnM (zcall zMs skM (e + 7)) (nI a) (nI c) (nI ps.length) t = some (some (.inl 1), t') ∧ rV k m T W0 s0 t0 W' b' s' t' ∧ b ≤ b') ∨ (∃ s' t', fnX (zcall zMs skX (d + 7)) (nI c) (nI a) s = some (some (.inl 0), s') ∧ fnM (zcall zMs skM (e + 7)) (nI a) (nI c) (nI ps.length) t = some (some (.inl 0), t') ∧ rBad W0 s0 t0 s' t') := by
  obtain ⟨hf, hX, hM, hE, -, -, hx, ht, hb, -, -⟩ := id hv
  have hn := hf.1
  unfold fnX fnM
  rw [sX_full (d + 6) hf hX, zcI_some, hM.1]
  by_cases hfull : aN W < 16
  · have hne : ¬ nI (aN W) = (16 : Int32) := fun c => by have := (nI_i3 (by omega) 16 (by omega)).mp c; omega
    obtain ⟨s2, e1, e2, e3, e4, e5⟩ := fndX (d + 3) hf hl hnd hps hX hTx
    obtain ⟨t2, f1, f2, f3, f4, f5⟩ := fndM (e + 3) hf hl hnd hps hM hTm
    have hv2 : rV k m T W0 s0 t0 W b s2 t2 := rv_fr hv (fun p i hp => e3 p i (by omega) (by omega) (by omega) (by omega) (by omega)) e5 (fun p k0 k14 k16 k17 k18 k19 i => f3 p i k0 k16 k17 k18 k19) f4 f5
    rw [zBp_f (fun c => c hfull), if_neg z0, if_neg hne, e1, zcI_some, f1, zcI_some]
    by_cases hnone : mO W ps = none
    · refine Or.inr ⟨_, _, ?_, ?_, rv_bad hv2 hm (kFX_r _) (kFM_z (i := 18) (v := nI a) (kFM_r t2) (by decide)) zgz_eq ha⟩
      · rw [zBp_f (fun c => c hnone), if_neg z0, xk_mf, zcI_some, zbo_0]
      · rw [zBp_f (fun c => c hnone), if_neg z0, zbo_0]
    · obtain ⟨r, hr⟩ := Option.ne_none_iff_exists'.mp hnone
      obtain ⟨q1, q2, q3, q4⟩ := e2 r hr
      obtain ⟨q5, q6⟩ := f2 r hr
      obtain ⟨-, hX2, hM2, -, -, -, hx2, ht2, -, -, h20⟩ := id hv2
      have hX3 : aX 2 (zs s2 42 0 (zg s2 42 0 + 1)) W := aX_fr (fun p h2 h11 i => zgz_ne (by omega)) hX2
      obtain ⟨s4, g1, g2, g3, g4⟩ := sX_add (k := c) (ps := ps) (r := r) (s := zs s2 42 0 (zg s2 42 0 + 1)) (d + 5) hf hfull hl q4 q3 hX3 ⟨(zgz_ne (by decide)).trans ((e4 1 (by decide)).trans hTx.1), fun j x hj => (zgz_ne (by decide)).trans ((e3 37 j (by decide) (by decide) (by decide) (by decide) (by decide)).trans (hTx.2 j x hj))⟩ ((zgz_ne (by decide)).trans q1) (fun j x hj => (zgz_ne (by decide)).trans (q2 j x hj))
      obtain ⟨t4, k1, k2, k3, k4, k5⟩ := sM_new (k := c) (ps := ps) (r := r) (e + 6) hf hfull hl q4 q3 hM2 (fun j x hj => (f3 14 j (by decide) (by decide) (by decide) (by decide) (by decide)).trans (hTm j x hj)) q5 q6
      have hwf : aWf (aNew W c ps r) := aNew_f hf hfull hc hl hps q3 q4
      have hv4 : rV k m T W0 s0 t0 (aNew W c ps r) b s4 t4 := rv_new hv2 hwf g2 k2 (rEx_new hE) rfl (fun p i hp hpi => (g3 p i (by omega)).trans (by
        by_cases h42 : p = 42
        · rw [h42]; exact zgz_nj (hpi.resolve_left (fun c => c h42))
        · exact zgz_ne h42)) ((g3 42 0 (by decide)).trans zgz_eq) (fun p i => g4 p i) (fun p i hp => k3 p i (by omega)) k4 k5
      have hlen : aN (aNew W c ps r) = aN W + 1 := rfl
      have hj := jk_slots (k := k) (m := m) (T := T) (W0 := W0) (s0 := s0) (t0 := t0) (o := aN W) d e hk hm hE.1 m 0 19999 20000 (aNew W c ps r) b s4 t4 hv4 (by omega) (by omega) (by omega) (by omega) (by omega)
      rw [nI_0, hM_M_slots_0 _ 19999] at hj
      rw [zBp_t hnone, if_pos o1, if_pos o1, g1, zcI_some, k1, zcI_some, aX_D_readSlots, aM_M_slots]
      unfold bX_D_readSlots_0
      rcases hj with ⟨W', b', s', t', r1, r2, r3, r4⟩ | ⟨s', t', r1, r2, r3⟩
      · refine Or.inl ⟨W', b', s', t', ?_, ?_, r3, r4⟩
        · rw [r1, zcI_some, zbo_1]
        · rw [r2, zcI_some, zbo_1]
      · refine Or.inr ⟨s', t', ?_, ?_, r3⟩
        · rw [r1, zcI_some, zbo_0]
        · rw [r2, zcI_some, zbo_0]
  · have he : nI (aN W) = (16 : Int32) := by rw [show aN W = 16 by omega]; decide
    refine Or.inr ⟨_, _, ?_, ?_, rv_bad hv hm (kFX_r _) (kFM_z (i := 18) (v := nI a) (kFM_r t) (by decide)) zgz_eq ha⟩
    · rw [zBp_t hfull, if_pos o1, xk_mf, zcI_some, zbo_0]
    · rw [if_pos he, zbo_0]
