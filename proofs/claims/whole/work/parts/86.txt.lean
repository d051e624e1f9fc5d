/-! READ: a text -/
def tF (t : zS) (n0 : Nat) : zS := zs (zs t 0 16 (zg t 0 18)) 0 0 (nI n0)
def tG (t : zS) : zS := zs t 15 6 (zg t 15 6 + 1)
theorem m32_0 (e L n0 : Nat) (x1 : Int32) (t : zS) : zexec skM (zcall zMs skM (e + 1)) zT_M_read 1 (L + 1) 32 [some (.inr (.inr 0)), some (.inl x1), none, some (.inl (nI n0)), some (.inl 0)] [] t = some (some (.inl (-6)), tG (tF t n0)) := by
  rw [hM_M_read_32]
  unfold bM_M_read_32
  rw [if_pos (show (0 : Int32) = 0 from rfl), if_pos (show (0 : Int32) = 0 from rfl)]
  dsimp only
  rw [if_pos (show (0 : Int32) = 0 from rfl), sM_no6, zcI_some]
  rfl
theorem m32_1 {k m b : Nat} (e L n0 : Nat) (t : zS) (hk : k < 8) (hm : m ≤ 160) (hb : b < m) (h12 : zg t 12 k = nI m) (h18 : zg t 0 18 = nI b) : zexec skM (zcall zMs skM (e + 1)) zT_M_read 1 (L + 1) 32 [some (.inr (.inr 0)), some (.inl (nI k)), none, some (.inl (nI n0)), some (.inl 1)] [] t = some (some (.inl (-6)), tG (tF t n0)) := by
  rw [hM_M_read_32]
  unfold bM_M_read_32
  rw [if_neg o1, zin_nI hk (by decide), nI_clamp (show k < 2 ^ 31 by omega), h12, if_pos (show ¬ zg t 0 18 = nI m from fun c => by rw [h18] at c; have := (nI_eq (by omega) (by omega)).mp c; omega), if_pos (show (0 : Int32) = 0 from rfl)]
  dsimp only
  rw [if_pos (show (0 : Int32) = 0 from rfl), sM_no6, zcI_some]
  rfl
theorem m32_ok {k m : Nat} (e L n0 : Nat) (t : zS) (hk : k < 8) (h12 : zg t 12 k = nI m) (h18 : zg t 0 18 = nI m) : zexec skM (zcall zMs skM (e + 1)) zT_M_read 1 (L + 1) 32 [some (.inr (.inr 0)), some (.inl (nI k)), none, some (.inl (nI n0)), some (.inl 1)] [] t = some (some (.inl (zg t 0 0 - nI n0)), zs t 0 16 (-1)) := by
  rw [hM_M_read_32]
  unfold bM_M_read_32
  rw [if_neg o1, zin_nI hk (by decide), nI_clamp (show k < 2 ^ 31 by omega), h12, if_neg (fun c => c h18), if_neg o1]
  dsimp only
  rw [if_neg o1]
theorem x16_bad (C : Nat → List zV → zS → zR) (K f : Nat) (x3 x5 : Int32) (s : zS) (hf : f ≤ 160) (h4 : zg s 42 4 = nI f) : zexec skX C zT_D_readText 1 (K + 1) 16 [some (.inr (.inr 42)), some (.inr (.inr 2)), some (.inr (.inr 36)), some (.inl x3), some (.inl 0), some (.inl x5)] [] s = some (some (.inl (zg s 42 4)), zs s 2 0 x3) := by
  rw [hX_D_readText_16]
  unfold bX_D_readText_16
  have hne : ¬ zg s 42 4 = -1 := by rw [h4]; exact nI_neg1 (by omega)
  rw [if_neg hne, if_pos (show (0 : Int32) = 0 from rfl), ite_self]
theorem x16_ok (C : Nat → List zV → zS → zR) (K : Nat) (x3 x5 : Int32) (s : zS) (h4 : zg s 42 4 = -1) : zexec skX C zT_D_readText 1 (K + 1) 16 [some (.inr (.inr 42)), some (.inr (.inr 2)), some (.inr (.inr 36)), some (.inl x3), some (.inl 0), some (.inl x5)] [] s = some (some (.inl (-1)), s) := by
  rw [hX_D_readText_16]
  unfold bX_D_readText_16
  rw [if_pos h4, if_pos (show (0 : Int32) = 0 from rfl), ite_self, h4]
theorem jk_text {k m n0 : Nat} {T : Nat → Int32} {W0 : aW} {s0 t0 : zS} (d e : Nat) (hk : k < 8) (hm : m ≤ 160) : ∀ (f j K L : Nat) (W : aW) (a : Nat) (s t : zS), rV k m T W0 s0 t0 W a s t → m - a ≤ f → j ≤ a → f + 2 < K → f + 2 < L → (∃ W' s' t', zexec skX (zcall zMs skX (d + 9)) zT_D_readText 1 K 16 [some (.inr (.inr 42)), some (.inr (.inr 2)), some (.inr (.inr 36)), some (.inl (nI n0)), some (.inl 1), some (.inl (nI j))] [] s = some (some (.inl (-1)), s') ∧ (zcI (zcall zMs skM (e + 9) 159 [.inr (.inr 0)] t) fun r106 s105 => zexec skM (zcall zMs skM (e + 9)) zT_M_read 1 L 22 [some (.inr (.inr 0)), some (.inl (nI k)), none, some (.inl (nI n0)), some (.inl r106)] [] s105) = some (some (.inl (nI (aN W') - nI n0)), zs t' 0 16 (-1)) ∧ rV k m T W0 s0 t0 W' m s' t') ∨ (∃ s' t', zexec skX (zcall zMs skX (d + 9)) zT_D_readText 1 K 16 [some (.inr (.inr 42)), some (.inr (.inr 2)), some (.inr (.inr 36)), some (.inl (nI n0)), some (.inl 1), some (.inl (nI j))] [] s = some (some (.inl (zg s' 42 4)), zs s' 2 0 (nI n0)) ∧ (zcI (zcall zMs skM (e + 9) 159 [.inr (.inr 0)] t) fun r106 s105 => zexec skM (zcall zMs skM (e + 9)) zT_M_read 1 L 22 [some (.inr (.inr 0)), some (.inl (nI k)), none, some (.inl (nI n0)), some (.inl r106)] [] s105) = some (some (.inl (-6)), tG (tF t' n0)) ∧ rBad W0 s0 t0 s' t') := by
  intro f
  induction f with
  | zero =>
    intro j K L W a s t hv hfa hja hK hL
    obtain ⟨K, rfl⟩ : ∃ K', K = K' + 2 := ⟨K - 2, by omega⟩
    obtain ⟨L, rfl⟩ : ∃ L', L = L' + 2 := ⟨L - 2, by omega⟩
    have ha := hv.2.2.2.2.2.2.2.2.1
    rw [show K + 2 = (K + 1) + 1 from rfl, hX_D_readText_16]
    unfold bX_D_readText_16
    rw [if_neg (show ¬ (160 : Int32) < nI j from nI_nlt (a := 160) (show j ≤ 160 by omega) (by decide)), if_neg o1]
    rcases jk_item (d + 1) (e + 1) hk hm hv with ⟨W', b, s', t', r1, r2, r3, r4⟩ | ⟨s', t', r1, r2, r3⟩
    · obtain ⟨hf', hX', hM', -, -, -, hx', ht', hb', h4', -⟩ := id r3
      obtain ⟨p1, p2⟩ := mk_is (e + 7) 59 (by decide) hk hm hb' ht'
      rw [r1, zcI_some, if_neg o1, hx'.1, hx'.2.1, r2, zcI_some, show L + 2 = (L + 1) + 1 from rfl, hM_M_read_22]
      unfold bM_M_read_22
      rw [if_neg o1]
      by_cases hbm : b < m
      · omega
      · have e1 : b = m := by omega
        subst e1
        have hn : ¬ tkC b T b 59 := fun c => hbm c.1
        refine Or.inl ⟨W', s', t', ?_, ?_, r3⟩
        · rw [if_pos (nI_le (Nat.le_refl b) (by omega)), x16_ok _ _ _ _ _ h4']
        · rw [p2 hn, zcI_some, if_pos (show (0 : Int32) = 0 from rfl), m32_ok (e + 8) L n0 t' hk ht'.2.1 ht'.2.2.2, hM'.1]
    · obtain ⟨W', f', -, -, -, -, -, -, w1, w2, w3⟩ := id r3
      refine Or.inr ⟨s', t', ?_, ?_, r3⟩
      · rw [r1, zcI_some, if_pos (show (0 : Int32) = 0 from rfl), x16_bad _ K f' _ _ _ w1 w2]
      · rw [r2, zcI_some, show L + 2 = (L + 1) + 1 from rfl, hM_M_read_22]
        unfold bM_M_read_22
        rw [if_pos (show (0 : Int32) = 0 from rfl), m32_0 (e + 8)]
  | succ f ih =>
    intro j K L W a s t hv hfa hja hK hL
    obtain ⟨K, rfl⟩ : ∃ K', K = K' + 2 := ⟨K - 2, by omega⟩
    obtain ⟨L, rfl⟩ : ∃ L', L = L' + 2 := ⟨L - 2, by omega⟩
    have ha := hv.2.2.2.2.2.2.2.2.1
    rw [show K + 2 = (K + 1) + 1 from rfl, hX_D_readText_16]
    unfold bX_D_readText_16
    rw [if_neg (show ¬ (160 : Int32) < nI j from nI_nlt (a := 160) (show j ≤ 160 by omega) (by decide)), if_neg o1]
    rcases jk_item (d + 1) (e + 1) hk hm hv with ⟨W', b, s', t', r1, r2, r3, r4⟩ | ⟨s', t', r1, r2, r3⟩
    · obtain ⟨hf', hX', hM', -, -, -, hx', ht', hb', h4', -⟩ := id r3
      obtain ⟨p1, p2⟩ := mk_is (e + 7) 59 (by decide) hk hm hb' ht'
      rw [r1, zcI_some, if_neg o1, hx'.1, hx'.2.1, r2, zcI_some, show L + 2 = (L + 1) + 1 from rfl, hM_M_read_22]
      unfold bM_M_read_22
      rw [if_neg o1]
      by_cases hbm : b < m
      · rw [if_neg (nI_ge hbm (by omega))]
        rcases xk_ps (d + 7) 59 hm hb' hx' with ⟨g1, g2, g3⟩ | ⟨g1, g2⟩
        · have hv2 := rv_go r3 (kFX_z (i := 3) (v := nI (b + 1)) (kFX_r s') (by decide)) (kFM_z (i := 18) (v := nI (b + 1)) (kFM_r t') (by decide)) zgz_eq zgz_eq g2
          rw [g3, zcI_some, if_neg o1, p1 g1, zcI_some, if_neg o1, nI_1]
          exact ih (j + 1) (K + 1) (L + 1) W' (b + 1) _ _ hv2 (by omega) (by omega) (by omega) (by omega)
        · refine Or.inr ⟨_, t', ?_, ?_, rv_bad r3 hm (kFX_r s') (kFM_r t') ht'.2.2.2 hb'⟩
          · rw [g2, zcI_some, if_pos (show (0 : Int32) = 0 from rfl), x16_bad _ K b _ _ _ (by omega) zgz_eq]
          · rw [p2 g1, zcI_some, if_pos (show (0 : Int32) = 0 from rfl), m32_1 (e + 8) L n0 t' hk hm hbm ht'.2.1 ht'.2.2.2]
      · have e1 : b = m := by omega
        subst e1
        have hn : ¬ tkC b T b 59 := fun c => hbm c.1
        refine Or.inl ⟨W', s', t', ?_, ?_, r3⟩
        · rw [if_pos (nI_le (Nat.le_refl b) (by omega)), x16_ok _ _ _ _ _ h4']
        · rw [p2 hn, zcI_some, if_pos (show (0 : Int32) = 0 from rfl), m32_ok (e + 8) L n0 t' hk ht'.2.1 ht'.2.2.2, hM'.1]
    · obtain ⟨W', f', -, -, -, -, -, -, w1, w2, w3⟩ := id r3
      refine Or.inr ⟨s', t', ?_, ?_, r3⟩
      · rw [r1, zcI_some, if_pos (show (0 : Int32) = 0 from rfl), x16_bad _ K f' _ _ _ w1 w2]
      · rw [r2, zcI_some, show L + 2 = (L + 1) + 1 from rfl, hM_M_read_22]
        unfold bM_M_read_22
        rw [if_pos (show (0 : Int32) = 0 from rfl), m32_0 (e + 8)]
