/-! MERGE: the rows are laid; the whole of it -/
theorem sX_fill40 (C : Nat → List zV → zS → zR) : ∀ (f j N : Nat) (s : zS), j + f = 4 → f < N → ∃ s', zexec skX C zT_J_fill2 0 N 5 [some (.inr (.inr 40)), some (.inl 0), some (.inl (nI j)), some (.inl (nI 4))] [] s = some (none, s') ∧ (∀ i, zg s' 40 i = if j ≤ i ∧ i < 4 then 0 else zg s 40 i) ∧ (∀ p i, p ≠ 40 → zg s' p i = zg s p i) ∧ (∀ p i, zgl s' p i = zgl s p i) := by
  intro f
  induction f with
  | zero =>
    intro j N s hj hN
    obtain ⟨N, rfl⟩ : ∃ N', N = N' + 1 := ⟨N - 1, by omega⟩
    refine ⟨s, ?_, fun i => by rw [if_neg (by omega)], fun _ _ _ => rfl, fun _ _ => rfl⟩
    rw [hX_J_fill2_5]
    unfold bX_J_fill2_5
    rw [if_pos (nI_le (by omega) (by omega))]
  | succ f ih =>
    intro j N s hj hN
    obtain ⟨N, rfl⟩ : ∃ N', N = N' + 1 := ⟨N - 1, by omega⟩
    obtain ⟨s', g1, g2, g3, g4⟩ := ih (j + 1) N (zs s 40 j 0) (by omega) (by omega)
    refine ⟨s', ?_, fun i => ?_, fun p i hp => (g3 p i hp).trans (zgz_ne hp), g4⟩
    · rw [hX_J_fill2_5]
      unfold bX_J_fill2_5
      rw [if_neg (nI_ge (show j < 4 by omega) (by omega)), zin_nI (show j < 4 by omega) (by decide), nI_clamp (by omega), nI_1]
      exact g1
    · rw [g2, zg_zs, if_pos rfl]
      by_cases hi : i = j
      · rw [if_neg (by omega), if_pos hi, if_pos (by omega)]
      · rw [if_neg hi]
        by_cases hr : j + 1 ≤ i ∧ i < 4
        · rw [if_pos hr, if_pos (by omega)]
        · rw [if_neg hr, if_neg (by omega)]
theorem sX_fill41 (C : Nat → List zV → zS → zR) : ∀ (f j N : Nat) (s : zS), j + f = 4 → f < N → ∃ s', zexec skX C zT_J_fill2 0 N 5 [some (.inr (.inr 41)), some (.inl 0), some (.inl (nI j)), some (.inl (nI 4))] [] s = some (none, s') ∧ (∀ i, zg s' 41 i = if j ≤ i ∧ i < 4 then 0 else zg s 41 i) ∧ (∀ p i, p ≠ 41 → zg s' p i = zg s p i) ∧ (∀ p i, zgl s' p i = zgl s p i) := by
  intro f
  induction f with
  | zero =>
    intro j N s hj hN
    obtain ⟨N, rfl⟩ : ∃ N', N = N' + 1 := ⟨N - 1, by omega⟩
    refine ⟨s, ?_, fun i => by rw [if_neg (by omega)], fun _ _ _ => rfl, fun _ _ => rfl⟩
    rw [hX_J_fill2_41_5]
    unfold bX_J_fill2_41_5
    rw [if_pos (nI_le (by omega) (by omega))]
  | succ f ih =>
    intro j N s hj hN
    obtain ⟨N, rfl⟩ : ∃ N', N = N' + 1 := ⟨N - 1, by omega⟩
    obtain ⟨s', g1, g2, g3, g4⟩ := ih (j + 1) N (zs s 41 j 0) (by omega) (by omega)
    refine ⟨s', ?_, fun i => ?_, fun p i hp => (g3 p i hp).trans (zgz_ne hp), g4⟩
    · rw [hX_J_fill2_41_5]
      unfold bX_J_fill2_41_5
      rw [if_neg (nI_ge (show j < 4 by omega) (by omega)), zin_nI (show j < 4 by omega) (by decide), nI_clamp (by omega), nI_1]
      exact g1
    · rw [g2, zg_zs, if_pos rfl]
      by_cases hi : i = j
      · rw [if_neg (by omega), if_pos hi, if_pos (by omega)]
      · rw [if_neg hi]
        by_cases hr : j + 1 ≤ i ∧ i < 4
        · rw [if_pos hr, if_pos (by omega)]
        · rw [if_neg hr, if_neg (by omega)]
/-- the rows of PARENTS: so many laid -/
def pD (W : aW) (ps : List Nat) (r : Nat) : Nat → List Nat := fun q => if q < r then aO W (ps.getD q 0) else []
def pF (W : aW) (ps : List Nat) : Nat → List Nat := fun q => if q = 3 then ps else pD W ps ps.length q
def pR (W : aW) (ps : List Nat) : Nat → List Nat := fun q => if q = ps.length then ps else pD W ps ps.length q
noncomputable def mO (W : aW) (ps : List Nat) : Option (List Nat) := rMg ps.length 17 (pR W ps) []
theorem pSame (W : aW) (ps : List Nat) (h : ps.length ≤ 3) : rSame ps.length (pF W ps) (pR W ps) := by
  refine ⟨h, fun q hq => ?_, fun q h1 h2 => ?_, ?_⟩
  · unfold pF pR
    rw [if_neg (by omega), if_neg (by omega)]
  · unfold pF pD
    rw [if_neg (by omega), if_neg (by omega)]
  · unfold pF pR
    rw [if_pos rfl, if_pos rfl]
theorem pOk {W : aW} {ps : List Nat} (hf : aWf W) (hnd : ps.Nodup) (hps : ∀ p, p ∈ ps → p < aN W) : rOk (aN W) (ps.length + 1) (pR W ps) [] := by
  refine ⟨List.nodup_nil, fun x hx => absurd hx List.not_mem_nil, fun q hq => ?_⟩
  unfold pR
  by_cases hqn : q = ps.length
  · rw [if_pos hqn]
    exact ⟨hnd, fun x hx => ⟨hps x hx, List.not_mem_nil⟩⟩
  · rw [if_neg hqn]
    unfold pD
    rw [if_pos (by omega)]
    have hm : ps.getD q 0 ∈ ps := by
      rw [List.getD_eq_getElem?_getD, List.getElem?_eq_getElem (show q < ps.length by omega)]
      exact List.getElem_mem _
    exact ⟨(hf.2.2.1 _ (hps _ hm)).2.2.2.2.2.2, fun x hx => ⟨aWf_mem hf (hps _ hm) hx, List.not_mem_nil⟩⟩
theorem getD_mem {ps : List Nat} {q : Nat} (h : q < ps.length) : ps.getD q 0 ∈ ps ∧ ps[q]? = some (ps.getD q 0) := by
  rw [List.getD_eq_getElem?_getD, List.getElem?_eq_getElem h]
  exact ⟨List.getElem_mem _, rfl⟩
/-- what was told, in the class's state -/
def tX (s : zS) (ps : List Nat) : Prop := zg s 36 1 = nI ps.length ∧ mIn (zg s 37) ps
theorem layX {W : aW} {ps : List Nat} (C : Nat → List zV → zS → zR) (hf : aWf W) (hl : ps.length ≤ 3) (hps : ∀ p, p ∈ ps → p < aN W) : ∀ (f r K : Nat) (s : zS), r + f = ps.length → f < K → aX 2 s W → tX s ps → gX s (pD W ps r) (fun _ => 0) (fun q => (pD W ps r q).length) → ∃ s', zexec skX C zT_G_layRows 0 K 10 [some (.inr (.inr 36)), some (.inr (.inr 2)), some (.inl (nI r)), none] [] s = some (none, s') ∧ gX s' (pF W ps) (fun _ => 0) (fun q => (pF W ps q).length) ∧ (∀ p i, p ≠ 39 → p ≠ 41 → zg s' p i = zg s p i) ∧ (∀ p i, zgl s' p i = zgl s p i) := by
  have hn := hf.1
  intro f
  induction f with
  | zero =>
    intro r K s hr hK hX hT hg
    obtain ⟨K, rfl⟩ : ∃ K', K = K' + 1 := ⟨K - 1, by omega⟩
    have hrl : r = ps.length := by omega
    obtain ⟨t1, t2⟩ := hT
    have h36 : zg (zs s 41 3 (nI ps.length)) 36 1 = nI ps.length := t1
    refine ⟨zsc (zs s 41 3 (nI ps.length)) 37 39 0 48 ps.length, ?_, ?_, fun p i p39 p41 => ?_, fun _ _ => rfl⟩
    · rw [hX_G_layRows_10]
      unfold bX_G_layRows_10
      rw [t1, if_pos (nI_le (by omega) (by omega))]
      have hz : ∀ z : zR, zcpin (0 : Int32) (48 : Int32) (nI ps.length) 3 64 z = z := fun z => zcpin_ok (a := 0) (b := 48) (n := ps.length) z (by omega) (by omega) (by decide) (by decide)
      rw [hz, cl0, show Int32.toNatClampNeg (48 : Int32) = 48 by decide, nI_clamp (show ps.length < 2 ^ 31 by omega)]
    · intro q hq
      obtain ⟨g1, g2, g3, g4, g5, g6⟩ := hg q hq
      by_cases hq3 : q = 3
      · subst hq3
        show 0 + (pF W ps 3).length = (pF W ps 3).length ∧ (pF W ps 3).length ≤ 16 ∧ zg _ 40 3 = nI 0 ∧ zg _ 41 3 = nI (pF W ps 3).length ∧ (∀ (j x : Nat), (pF W ps 3)[j]? = some x → zg _ 39 (3 * 16 + (0 + j)) = nI x) ∧ ∀ x, x ∈ pF W ps 3 → x < 16
        rw [show pF W ps 3 = ps from if_pos rfl]
        refine ⟨Nat.zero_add _, by omega, ?_, ?_, fun j x hx => ?_, fun x hx => by have := hps x hx; omega⟩
        · rw [zg_zsc, if_neg (by decide), zgz_ne (by decide)]; exact g3
        · rw [zg_zsc, if_neg (by decide), zgz_eq]
        · have hj := (List.getElem?_eq_some_iff.mp hx).1
          rw [zg_zsc, if_pos rfl, if_pos ⟨by omega, by omega⟩, zgz_ne (by decide), show 0 + (3 * 16 + (0 + j) - 48) = j by omega]
          exact t2 j x hx
      · have e : pF W ps q = pD W ps r q := by
          unfold pF
          rw [if_neg hq3, hrl]
        show 0 + (pF W ps q).length = (pF W ps q).length ∧ (pF W ps q).length ≤ 16 ∧ zg _ 40 q = nI 0 ∧ zg _ 41 q = nI (pF W ps q).length ∧ (∀ (j x : Nat), (pF W ps q)[j]? = some x → zg _ 39 (q * 16 + (0 + j)) = nI x) ∧ ∀ x, x ∈ pF W ps q → x < 16
        rw [e]
        refine ⟨g1, g2, ?_, ?_, fun j x hx => ?_, g6⟩
        · rw [zg_zsc, if_neg (by decide), zgz_ne (by decide)]; exact g3
        · rw [zg_zsc, if_neg (by decide), zgz_nj hq3]; exact g4
        · have hj := (List.getElem?_eq_some_iff.mp hx).1
          have g2' : (pD W ps r q).length ≤ 16 := g2
          rw [zg_zsc, if_pos rfl, if_neg (by omega), zgz_ne (by decide)]
          exact g5 j x hx
    · rw [zg_zsc, if_neg p39, zgz_ne p41]
  | succ f ih =>
    intro r K s hr hK hX hT hg
    obtain ⟨K, rfl⟩ : ∃ K', K = K' + 1 := ⟨K - 1, by omega⟩
    have hrl : r < ps.length := by omega
    obtain ⟨t1, t2⟩ := hT
    obtain ⟨hm, hget⟩ := getD_mem hrl
    have hp := hps _ hm
    have h37 := t2 r _ hget
    have hlen := aWf_len hf hp
    have h6 := aX_osz hX hp
    have hord : ∀ j x, (aO W (ps.getD r 0))[j]? = some x → zg s 7 (ps.getD r 0 * 16 + j) = nI x := fun j x hx => aX_ord hX hp hx
    have hmem : ∀ x, x ∈ aO W (ps.getD r 0) → x < 16 := fun x hx => by have := aWf_mem hf hp hx; omega
    have hpD : pD W ps (r + 1) r = aO W (ps.getD r 0) := if_pos (by omega)
    have hpD2 : ∀ q, q ≠ r → pD W ps (r + 1) q = pD W ps r q := by
      intro q hq
      unfold pD
      by_cases h : q < r
      · rw [if_pos h, if_pos (by omega)]
      · rw [if_neg h, if_neg (by omega)]
    generalize ps.getD r 0 = p at hm hget hp h37 hlen h6 hord hmem hpD
    have hp16 : p < 16 := by omega
    have hT' : tX (zsc (zs s 41 r (nI (aO W p).length)) 7 39 (p * 16) (r * 16) (aO W p).length) ps := by
      refine ⟨t1, fun j x hx => ?_⟩
      rw [zg_zsc, if_neg (by decide), zgz_ne (by decide)]
      exact t2 j x hx
    have hX' : aX 2 (zsc (zs s 41 r (nI (aO W p).length)) 7 39 (p * 16) (r * 16) (aO W p).length) W := aX_fr (fun p h2 h11 i => by rw [zg_zsc, if_neg (by omega), zgz_ne (by omega)]) hX
    have hg' : gX (zsc (zs s 41 r (nI (aO W p).length)) 7 39 (p * 16) (r * 16) (aO W p).length) (pD W ps (r + 1)) (fun _ => 0) (fun q => (pD W ps (r + 1) q).length) := by
      intro q hq
      obtain ⟨g1, g2, g3, g4, g5, g6⟩ := hg q hq
      by_cases hqr : q = r
      · subst hqr
        show 0 + (pD W ps (q + 1) q).length = (pD W ps (q + 1) q).length ∧ (pD W ps (q + 1) q).length ≤ 16 ∧ zg _ 40 q = nI 0 ∧ zg _ 41 q = nI (pD W ps (q + 1) q).length ∧ (∀ (j x : Nat), (pD W ps (q + 1) q)[j]? = some x → zg _ 39 (q * 16 + (0 + j)) = nI x) ∧ ∀ x, x ∈ pD W ps (q + 1) q → x < 16
        rw [hpD]
        refine ⟨Nat.zero_add _, hlen, ?_, ?_, fun j x hx => ?_, hmem⟩
        · rw [zg_zsc, if_neg (by decide), zgz_ne (by decide)]; exact g3
        · rw [zg_zsc, if_neg (by decide), zgz_eq]
        · have hj := (List.getElem?_eq_some_iff.mp hx).1
          rw [zg_zsc, if_pos rfl, if_pos ⟨by omega, by omega⟩, zgz_ne (by decide), show p * 16 + (q * 16 + (0 + j) - q * 16) = p * 16 + j by omega]
          exact hord j x hx
      · show 0 + (pD W ps (r + 1) q).length = (pD W ps (r + 1) q).length ∧ (pD W ps (r + 1) q).length ≤ 16 ∧ zg _ 40 q = nI 0 ∧ zg _ 41 q = nI (pD W ps (r + 1) q).length ∧ (∀ (j x : Nat), (pD W ps (r + 1) q)[j]? = some x → zg _ 39 (q * 16 + (0 + j)) = nI x) ∧ ∀ x, x ∈ pD W ps (r + 1) q → x < 16
        rw [hpD2 q hqr]
        have g2' : (pD W ps r q).length ≤ 16 := g2
        refine ⟨Nat.zero_add _, g2, ?_, ?_, fun j x hx => ?_, g6⟩
        · rw [zg_zsc, if_neg (by decide), zgz_ne (by decide)]; exact g3
        · rw [zg_zsc, if_neg (by decide), zgz_nj hqr]
          exact g4
        · have hj := (List.getElem?_eq_some_iff.mp hx).1
          rw [zg_zsc, if_pos rfl, if_neg (by omega), zgz_ne (by decide)]
          exact g5 j x hx
    obtain ⟨s', e1, e2, e3, e4⟩ := ih (r + 1) K _ (by omega) (by omega) hX' hT' hg'
    refine ⟨s', ?_, e2, fun p i p39 p41 => ?_, e4⟩
    · rw [hX_G_layRows_10]
      unfold bX_G_layRows_10
      rw [t1, if_neg (nI_ge hrl (by omega)), zin_nI (show r < 3 by omega) (by decide), nI_clamp (show r < 2 ^ 31 by omega), h37, zin_nI hp16 (by decide), nI_clamp (show p < 2 ^ 31 by omega), zin_nI (show r < 4 by omega) (by decide), h6]
      dsimp only
      have hz : ∀ z : zR, zcpin (nI (p * 16)) (nI (r * 16)) (nI (aO W p).length) 256 64 z = z := fun z => zcpin_ok (a := p * 16) (b := r * 16) (n := (aO W p).length) z (by omega) (by omega) (by decide) (by decide)
      rw [zin_nI (show r < 4 by omega) (by decide), zgz_eq, nmul16b, nmul16b, hz, nI_clamp (show p * 16 < 2 ^ 31 by omega), nI_clamp (show r * 16 < 2 ^ 31 by omega), nI_clamp (show (aO W p).length < 2 ^ 31 by omega), nI_1]
      exact e1
    · rw [e3 p i p39 p41, zg_zsc, if_neg p39, zgz_ne p41]
theorem fndX {W : aW} {ps : List Nat} {s : zS} (d : Nat) (hf : aWf W) (hl : ps.length ≤ 3) (hnd : ps.Nodup) (hps : ∀ p, p ∈ ps → p < aN W) (hX : aX 2 s W) (hT : tX s ps) : ∃ s', zcall zMs skX (d + 4) 10 [.inr (.inr 36), .inr (.inr 2)] s = some (some (.inl (zBp (¬ mO W ps = none))), s') ∧ (∀ r, mO W ps = some r → zg s' 36 3 = nI r.length ∧ mIn (zg s' 38) r ∧ r.Nodup ∧ (∀ x, x ∈ r → x < aN W)) ∧ (∀ p i, p ≠ 36 → p ≠ 38 → p ≠ 39 → p ≠ 40 → p ≠ 41 → zg s' p i = zg s p i) ∧ (∀ i, i ≠ 3 → zg s' 36 i = zg s 36 i) ∧ (∀ p i, zgl s' p i = zgl s p i) := by
  have hn := hf.1
  obtain ⟨s1, a1, a2, a3, a4⟩ := sX_fill40 (zcall zMs skX (d + 1)) 4 0 19999 s rfl (by omega)
  obtain ⟨s2, b1, b2, b3, b4⟩ := sX_fill41 (zcall zMs skX (d + 1)) 4 0 19999 s1 rfl (by omega)
  rw [nI_0] at a1 b1
  have f12 : ∀ p i, p ≠ 40 → p ≠ 41 → zg s2 p i = zg s p i := fun p i p40 p41 => (b3 p i p41).trans (a3 p i p40)
  have hX2 : aX 2 s2 W := aX_fr (fun p h2 h11 i => f12 p i (by omega) (by omega)) hX
  have hT2 : tX s2 ps := ⟨(f12 36 1 (by decide) (by decide)).trans hT.1, fun j x hx => (f12 37 j (by decide) (by decide)).trans (hT.2 j x hx)⟩
  have hg2 : gX s2 (pD W ps 0) (fun _ => 0) (fun q => (pD W ps 0 q).length) := by
    intro q hq
    have e : pD W ps 0 q = [] := if_neg (Nat.not_lt_zero q)
    show 0 + (pD W ps 0 q).length = (pD W ps 0 q).length ∧ (pD W ps 0 q).length ≤ 16 ∧ zg s2 40 q = nI 0 ∧ zg s2 41 q = nI (pD W ps 0 q).length ∧ _
    rw [e]
    refine ⟨rfl, Nat.zero_le _, ?_, ?_, fun j x hx => by simp at hx, fun x hx => absurd hx List.not_mem_nil⟩
    · rw [b3 40 q (by decide), a2, if_pos ⟨Nat.zero_le _, hq⟩]; exact nI_0.symm
    · rw [b2, if_pos ⟨Nat.zero_le _, hq⟩]; exact nI_0.symm
  obtain ⟨s3, c1, c2, c3, c4⟩ := layX (zcall zMs skX (d + 2)) hf hl hps ps.length 0 19999 s2 (by omega) (by omega) hX2 hT2 hg2
  rw [nI_0] at c1
  have hg4 : gX (zs s3 36 3 0) (pF W ps) (fun _ => 0) (fun q => (pF W ps q).length) := gX_c (fun _ _ => rfl) (fun _ => rfl) (fun _ => rfl) (fun _ => rfl) c2
  obtain ⟨s4, e1, e2, e3, e4, e5⟩ := mgX d hn 17 19999 (zs s3 36 3 0) (pF W ps) (pR W ps) [] _ _ rfl (by omega) (pSame W ps hl) (pOk hf hnd hps) hg4 (by rw [zgz_eq]; exact nI_0.symm) (fun j x hx => by simp at hx)
  rw [show ([] : List Nat).length = 0 from rfl, nI_0] at e1
  refine ⟨s4, ?_, e2, fun p i p36 p38 p39 p40 p41 => ?_, fun i hi => ?_, fun p i => ?_⟩
  · rw [aX_G_findOrder]
    unfold bX_G_findOrder_0
    rw [aX_G_layRows]
    unfold bX_G_layRows_0
    rw [aX_J_fill2]
    unfold bX_J_fill2_0
    have e4' : (Int32.ofNat 4) = nI 4 := rfl
    rw [e4', a1, zcV_some, aX_J_fill2_41]
    unfold bX_J_fill2_41_0
    rw [e4', b1, zcV_some, c1, zcV_some]
    exact e1
  · rw [e3 p i p36 p38 p40, zgz_ne p36, c3 p i p39 p41, f12 p i p40 p41]
  · rw [e4 i hi, zgz_nj hi, c3 36 i (by decide) (by decide), f12 36 i (by decide) (by decide)]
  · rw [e5, zgl_zs, c4, b4, a4]
/-! the reference -/
theorem n0a (k : Nat) : (0 : Int32) + nI k = nI k := Int32.zero_add _

theorem lay14 (C : Nat → List zV → zS → zR) (i base len : Nat) (hi : i < 4) (hlen : len ≤ 16) (hb : base + len ≤ 3) : ∀ (f j K : Nat) (t : zS), j + f = len → f < K → ∃ t', zexec skM C zT_M_lays 0 K 12 [some (.inr (.inr 0)), some (.inl (nI i)), some (.inr (.inr 14)), some (.inl (nI base)), some (.inl (nI len)), some (.inl (nI j))] [] t = some (none, t') ∧ (∀ x, zg t' 16 x = if 17 * i + j ≤ x ∧ x < 17 * i + len then zg t 14 (base + (x - 17 * i)) else zg t 16 x) ∧ (∀ p x, p ≠ 16 → zg t' p x = zg t p x) ∧ (∀ p x, zgl t' p x = zgl t p x) := by
  intro f
  induction f with
  | zero =>
    intro j K t hj hK
    obtain ⟨K, rfl⟩ : ∃ K', K = K' + 1 := ⟨K - 1, by omega⟩
    refine ⟨t, ?_, fun x => by rw [if_neg (by omega)], fun _ _ _ => rfl, fun _ _ => rfl⟩
    rw [hM_M_lays_12]
    unfold bM_M_lays_12
    rw [if_pos (nI_le (by omega) (by omega))]
  | succ f ih =>
    intro j K t hj hK
    obtain ⟨K, rfl⟩ : ∃ K', K = K' + 1 := ⟨K - 1, by omega⟩
    obtain ⟨t', g1, g2, g3, g4⟩ := ih (j + 1) K (zs t 16 (17 * i + j) (zg t 14 (base + j))) (by omega) (by omega)
    refine ⟨t', ?_, fun x => ?_, fun p x hp => (g3 p x hp).trans (zgz_ne hp), g4⟩
    · rw [hM_M_lays_12]
      unfold bM_M_lays_12
      rw [if_neg (nI_ge (show j < len by omega) (by omega)), nI_add, zin_nI (show base + j < 3 by omega) (by decide), nlit17, zin_nI (show 17 * i + j < 68 by omega) (by decide), nI_clamp (show base + j < 2 ^ 31 by omega), nI_clamp (show 17 * i + j < 2 ^ 31 by omega), nI_1]
      exact g1
    · rw [g2, zgz_ne (by decide), zg_zs, if_pos rfl]
      by_cases hx : x = 17 * i + j
      · rw [if_neg (by omega), if_pos hx, if_pos (by omega), show base + (x - 17 * i) = base + j by omega]
      · rw [if_neg hx]
        by_cases hr : 17 * i + (j + 1) ≤ x ∧ x < 17 * i + len
        · rw [if_pos hr, if_pos (by omega)]
        · rw [if_neg hr, if_neg (by omega)]
theorem lays14 (d i base len : Nat) (t : zS) (hi : i < 4) (hlen : len ≤ 16) (hb : base + len ≤ 3) : ∃ t', zcall zMs skM (d + 1) 141 [.inr (.inr 0), .inl (nI i), .inr (.inr 14), .inl (nI base), .inl (nI len)] t = some (none, t') ∧ (∀ x, zg t' 16 x = if 17 * i ≤ x ∧ x < 17 * i + len then zg t 14 (base + (x - 17 * i)) else zg t 16 x) ∧ (∀ x, zg t' 17 x = if x = i then nI 0 else zg t 17 x) ∧ (∀ x, zg t' 18 x = if x = i then nI len else zg t 18 x) ∧ (∀ p x, p ≠ 16 → p ≠ 17 → p ≠ 18 → zg t' p x = zg t p x) ∧ (∀ p x, zgl t' p x = zgl t p x) := by
  obtain ⟨t', g1, g2, g3, g4⟩ := lay14 (zcall zMs skM d) i base len hi hlen hb len 0 19999 (zs (zs t 17 i 0) 18 i (nI len)) (by omega) (by omega)
  rw [nI_0] at g1
  refine ⟨t', ?_, fun x => ?_, fun x => ?_, fun x => ?_, fun p x p16 p17 p18 => ?_, g4⟩
  · rw [aM_M_lays]
    unfold bM_M_lays_0
    rw [zin_nI hi (by decide), zin_nI hi (by decide), nI_clamp (show i < 2 ^ 31 by omega)]
    exact g1
  · rw [g2, Nat.add_zero, zgz_ne (by decide), zgz_ne (by decide), zgz_ne (by decide), zgz_ne (by decide)]
  · rw [g3 17 x (by decide), zgz_ne (by decide), zg_zs, if_pos rfl, nI_0]
  · rw [g3 18 x (by decide), zg_zs, if_pos rfl, zgz_ne (by decide)]
  · rw [g3 p x p16, zgz_ne p18, zgz_ne p17]
theorem lay5 (C : Nat → List zV → zS → zR) (i base len : Nat) (hi : i < 4) (hlen : len ≤ 16) (hb : base + len ≤ 256) : ∀ (f j K : Nat) (t : zS), j + f = len → f < K → ∃ t', zexec skM C zT_M_lays 0 K 12 [some (.inr (.inr 0)), some (.inl (nI i)), some (.inr (.inr 5)), some (.inl (nI base)), some (.inl (nI len)), some (.inl (nI j))] [] t = some (none, t') ∧ (∀ x, zg t' 16 x = if 17 * i + j ≤ x ∧ x < 17 * i + len then zg t 5 (base + (x - 17 * i)) else zg t 16 x) ∧ (∀ p x, p ≠ 16 → zg t' p x = zg t p x) ∧ (∀ p x, zgl t' p x = zgl t p x) := by
  intro f
  induction f with
  | zero =>
    intro j K t hj hK
    obtain ⟨K, rfl⟩ : ∃ K', K = K' + 1 := ⟨K - 1, by omega⟩
    refine ⟨t, ?_, fun x => by rw [if_neg (by omega)], fun _ _ _ => rfl, fun _ _ => rfl⟩
    rw [hM_M_lays_0_5_12]
    unfold bM_M_lays_0_5_12
    rw [if_pos (nI_le (by omega) (by omega))]
  | succ f ih =>
    intro j K t hj hK
    obtain ⟨K, rfl⟩ : ∃ K', K = K' + 1 := ⟨K - 1, by omega⟩
    obtain ⟨t', g1, g2, g3, g4⟩ := ih (j + 1) K (zs t 16 (17 * i + j) (zg t 5 (base + j))) (by omega) (by omega)
    refine ⟨t', ?_, fun x => ?_, fun p x hp => (g3 p x hp).trans (zgz_ne hp), g4⟩
    · rw [hM_M_lays_0_5_12]
      unfold bM_M_lays_0_5_12
      rw [if_neg (nI_ge (show j < len by omega) (by omega)), nI_add, zin_nI (show base + j < 256 by omega) (by decide), nlit17, zin_nI (show 17 * i + j < 68 by omega) (by decide), nI_clamp (show base + j < 2 ^ 31 by omega), nI_clamp (show 17 * i + j < 2 ^ 31 by omega), nI_1]
      exact g1
    · rw [g2, zgz_ne (by decide), zg_zs, if_pos rfl]
      by_cases hx : x = 17 * i + j
      · rw [if_neg (by omega), if_pos hx, if_pos (by omega), show base + (x - 17 * i) = base + j by omega]
      · rw [if_neg hx]
        by_cases hr : 17 * i + (j + 1) ≤ x ∧ x < 17 * i + len
        · rw [if_pos hr, if_pos (by omega)]
        · rw [if_neg hr, if_neg (by omega)]
theorem lays5 (d i base len : Nat) (t : zS) (hi : i < 4) (hlen : len ≤ 16) (hb : base + len ≤ 256) : ∃ t', zcall zMs skM (d + 1) 141 [.inr (.inr 0), .inl (nI i), .inr (.inr 5), .inl (nI base), .inl (nI len)] t = some (none, t') ∧ (∀ x, zg t' 16 x = if 17 * i ≤ x ∧ x < 17 * i + len then zg t 5 (base + (x - 17 * i)) else zg t 16 x) ∧ (∀ x, zg t' 17 x = if x = i then nI 0 else zg t 17 x) ∧ (∀ x, zg t' 18 x = if x = i then nI len else zg t 18 x) ∧ (∀ p x, p ≠ 16 → p ≠ 17 → p ≠ 18 → zg t' p x = zg t p x) ∧ (∀ p x, zgl t' p x = zgl t p x) := by
  obtain ⟨t', g1, g2, g3, g4⟩ := lay5 (zcall zMs skM d) i base len hi hlen hb len 0 19999 (zs (zs t 17 i 0) 18 i (nI len)) (by omega) (by omega)
  rw [nI_0] at g1
  refine ⟨t', ?_, fun x => ?_, fun x => ?_, fun x => ?_, fun p x p16 p17 p18 => ?_, g4⟩
  · rw [aM_M_lays_0_5]
    unfold bM_M_lays_0_5_0
    rw [zin_nI hi (by decide), zin_nI hi (by decide), nI_clamp (show i < 2 ^ 31 by omega)]
    exact g1
  · rw [g2, Nat.add_zero, zgz_ne (by decide), zgz_ne (by decide), zgz_ne (by decide), zgz_ne (by decide)]
  · rw [g3 17 x (by decide), zgz_ne (by decide), zg_zs, if_pos rfl, nI_0]
  · rw [g3 18 x (by decide), zg_zs, if_pos rfl, zgz_ne (by decide)]
  · rw [g3 p x p16, zgz_ne p18, zgz_ne p17]
theorem gM_lay {t t' : zS} {N i src base : Nat} {D : Nat → List Nat} {l : List Nat} (hg : gM t i D (fun _ => 0) (fun q => (D q).length)) (hl : l.length ≤ 16) (hl16 : ∀ x, x ∈ l → x < 16) (hsrc : ∀ (j x : Nat), l[j]? = some x → zg t src (base + j) = nI x) (g2 : ∀ x, zg t' 16 x = if 17 * i ≤ x ∧ x < 17 * i + l.length then zg t src (base + (x - 17 * i)) else zg t 16 x) (g3 : ∀ x, zg t' 17 x = if x = i then nI 0 else zg t 17 x) (g4 : ∀ x, zg t' 18 x = if x = i then nI l.length else zg t 18 x) (hD : D i = l) : gM t' (i + 1) D (fun _ => 0) (fun q => (D q).length) := by
  intro q hq
  by_cases hqi : q = i
  · subst hqi
    show 0 + (D q).length = (D q).length ∧ (D q).length ≤ 16 ∧ zg t' 17 q = nI 0 ∧ zg t' 18 q = nI (D q).length ∧ (∀ (j x : Nat), (D q)[j]? = some x → zg t' 16 (17 * q + (0 + j)) = nI x) ∧ ∀ x, x ∈ D q → x < 16
    rw [hD]
    refine ⟨Nat.zero_add _, hl, by rw [g3, if_pos rfl], by rw [g4, if_pos rfl], fun j x hx => ?_, hl16⟩
    have hj := (List.getElem?_eq_some_iff.mp hx).1
    rw [g2, if_pos ⟨by omega, by omega⟩, show base + (17 * q + (0 + j) - 17 * q) = base + j by omega]
    exact hsrc j x hx
  · obtain ⟨e1, e2, e3, e4, e5, e6⟩ := hg q (by omega)
    have e2' : (D q).length ≤ 16 := e2
    show 0 + (D q).length = (D q).length ∧ (D q).length ≤ 16 ∧ zg t' 17 q = nI 0 ∧ zg t' 18 q = nI (D q).length ∧ (∀ (j x : Nat), (D q)[j]? = some x → zg t' 16 (17 * q + (0 + j)) = nI x) ∧ ∀ x, x ∈ D q → x < 16
    refine ⟨e1, e2, by rw [g3, if_neg hqi]; exact e3, by rw [g4, if_neg hqi]; exact e4, fun j x hx => ?_, e6⟩
    have hj := (List.getElem?_eq_some_iff.mp hx).1
    rw [g2, if_neg (by omega)]
    exact e5 j x hx
theorem mlM {W : aW} {ps : List Nat} (d : Nat) (hf : aWf W) (hl : ps.length ≤ 3) (hps : ∀ p, p ∈ ps → p < aN W) : ∀ (f r K : Nat) (t : zS), r + f = ps.length → aMz t W → mIn (zg t 14) ps → gM t r (pR W ps) (fun _ => 0) (fun q => (pR W ps q).length) → ∃ t', zexec skM (zcall zMs skM (d + 1)) zT_M_merges 3 (K + f + 1) 4 [some (.inr (.inr 0)), some (.inr (.inr 14)), some (.inl 0), some (.inl (nI ps.length)), some (.inl (nI (ps.length + rSum (pR W ps) r))), some (.inl (nI r)), none] [] t = zexec skM (zcall zMs skM (d + 1)) zT_M_merges 3 K 49 [some (.inr (.inr 0)), none, none, some (.inl (nI ps.length)), some (.inl (nI (rSum (pR W ps) (ps.length + 1)))), none, none] [] (zs t' 0 27 0) ∧ gM t' (ps.length + 1) (pR W ps) (fun _ => 0) (fun q => (pR W ps q).length) ∧ (∀ p i, p ≠ 16 → p ≠ 17 → p ≠ 18 → zg t' p i = zg t p i) ∧ (∀ p i, zgl t' p i = zgl t p i) := by
  have hn := hf.1
  intro f
  induction f with
  | zero =>
    intro r K t hr hM hT hg
    have hrl : r = ps.length := by omega
    obtain ⟨t', g1, g2, g3, g4, g5, g6⟩ := lays14 d ps.length 0 ps.length t (by omega) (by omega) (by omega)
    rw [nI_0] at g1
    have hpR : pR W ps ps.length = ps := if_pos rfl
    rw [hrl] at hg
    refine ⟨t', ?_, gM_lay (N := 0) (src := 14) (base := 0) hg (by omega) (fun x hx => by have := hps x hx; omega) (fun j x hx => by rw [Nat.zero_add]; exact hT j x hx) g2 g3 g4 hpR, g5, g6⟩
    rw [show K + 0 + 1 = K + 1 by omega, hM_M_merges_4]
    unfold bM_M_merges_4
    rw [hrl, if_pos (nI_le (Nat.le_refl _) (by omega)), g1, zcV_some]
    have : rSum (pR W ps) (ps.length + 1) = ps.length + rSum (pR W ps) ps.length := by
      show rSum (pR W ps) ps.length + (pR W ps ps.length).length = _
      rw [hpR, Nat.add_comm]
    rw [this]
  | succ f ih =>
    intro r K t hr hM hT hg
    have hrl : r < ps.length := by omega
    obtain ⟨hm, hget⟩ := getD_mem hrl
    have hp := hps _ hm
    have h14 := hT r _ hget
    have hlen := aWf_len hf hp
    have h4 : zg t 4 (ps.getD r 0) = nI (aO W (ps.getD r 0)).length := (hM.2.2.2.1 _ hp).2.2.2.1
    have hord : ∀ (j x : Nat), (aO W (ps.getD r 0))[j]? = some x → zg t 5 (16 * ps.getD r 0 + j) = nI x := fun j x hx => (hM.2.2.2.1 _ hp).2.2.2.2 j x hx
    have hmem : ∀ x, x ∈ aO W (ps.getD r 0) → x < 16 := fun x hx => by have := aWf_mem hf hp hx; omega
    have hpR : pR W ps r = aO W (ps.getD r 0) := by
      unfold pR pD
      rw [if_neg (by omega), if_pos hrl]
    generalize ps.getD r 0 = p at hm hget hp h14 hlen h4 hord hmem hpR
    have hp16 : p < 16 := by omega
    obtain ⟨t1, g1, g2, g3, g4, g5, g6⟩ := lays5 d r (16 * p) (aO W p).length t (by omega) hlen (by omega)
    have hg1 := gM_lay (N := 0) (src := 5) (base := 16 * p) hg hlen hmem hord g2 g3 g4 hpR
    have hM1 : aMz t1 W := aMz_fr (fun p h1 h10 i => g5 p i (by omega) (by omega) (by omega)) (g5 0 0 (by decide) (by decide) (by decide)) (g5 0 10 (by decide) (by decide) (by decide)) (g5 0 12 (by decide) (by decide) (by decide)) hM
    have hT1 : mIn (zg t1 14) ps := fun j x hx => (g5 14 j (by decide) (by decide) (by decide)).trans (hT j x hx)
    obtain ⟨t', e1, e2, e3, e4⟩ := ih (r + 1) K t1 (by omega) hM1 hT1 hg1
    refine ⟨t', ?_, e2, fun p i p16 p17 p18 => (e3 p i p16 p17 p18).trans (g5 p i p16 p17 p18), fun p i => (e4 p i).trans (g6 p i)⟩
    rw [show K + (f + 1) + 1 = (K + f + 1) + 1 by omega, hM_M_merges_4]
    unfold bM_M_merges_4
    have h16m : (16 : Int32) * nI p = nI (16 * p) := by rw [show (16 : Int32) = nI 16 from rfl, pk_mul]
    rw [if_neg (nI_ge hrl (by omega)), n0a, zin_nI (show r < 3 by omega) (by decide), zin_nI (show r < 3 by omega) (by decide), nI_clamp (show r < 2 ^ 31 by omega), h14, zin_nI hp16 (by decide), nI_clamp (show p < 2 ^ 31 by omega), h4, h16m, g1, zcV_some, zin_nI (show r < 3 by omega) (by decide), g5 14 r (by decide) (by decide) (by decide), h14, zin_nI hp16 (by decide), nI_clamp (show p < 2 ^ 31 by omega), g5 4 p (by decide) (by decide) (by decide), h4, nI_add, nI_1]
    dsimp only
    have hsum : ps.length + rSum (pR W ps) (r + 1) = ps.length + rSum (pR W ps) r + (aO W p).length := by
      show ps.length + (rSum (pR W ps) r + (pR W ps r).length) = _
      rw [hpR]
      omega
    rw [hsum] at e1
    exact e1
theorem fndM {W : aW} {ps : List Nat} {t : zS} (d : Nat) (hf : aWf W) (hl : ps.length ≤ 3) (hnd : ps.Nodup) (hps : ∀ p, p ∈ ps → p < aN W) (hM : aMz t W) (hT : mIn (zg t 14) ps) : ∃ t', zcall zMs skM (d + 4) 144 [.inr (.inr 0), .inr (.inr 14), .inl 0, .inl (nI ps.length)] t = some (some (.inl (zBp (¬ mO W ps = none))), t') ∧ (∀ r, mO W ps = some r → zg t' 0 27 = nI r.length ∧ mIn (zg t' 19) r) ∧ (∀ p i, p ≠ 0 → p ≠ 16 → p ≠ 17 → p ≠ 18 → p ≠ 19 → zg t' p i = zg t p i) ∧ (∀ i, i ≠ 27 → zg t' 0 i = zg t 0 i) ∧ (∀ p i, zgl t' p i = zgl t p i) := by
  have hn := hf.1
  obtain ⟨t1, g1, g2, g3, g4⟩ := mlM (d + 2) hf hl hps ps.length 0 (19998 - ps.length) t (by omega) hM hT (fun q hq => absurd hq (Nat.not_lt_zero q))
  have hg2 : gM (zs t1 0 27 0) (ps.length + 1) (pR W ps) (fun _ => 0) (fun q => (pR W ps q).length) := gM_c (fun _ _ => rfl) (fun _ => rfl) (fun _ => rfl) (fun _ => rfl) g2
  obtain ⟨t2, e1, e2, e3, e4, e5⟩ := mgM (N0 := aN W) d hn hl 17 (19998 - ps.length) (zs t1 0 27 0) (pR W ps) [] _ _ rfl (by omega) (pOk hf hnd hps) hg2 (by rw [zgz_eq]; exact nI_0.symm) (fun j x hx => by simp at hx)
  rw [show 19998 - ps.length + ps.length + 1 = 19999 by omega] at g1
  refine ⟨t2, ?_, e2, fun p i p0 p16 p17 p18 p19 => ?_, fun i hi => ?_, fun p i => ?_⟩
  · rw [aM_M_merges]
    unfold bM_M_merges_0
    have h0 : ps.length + rSum (pR W ps) 0 = ps.length := rfl
    rw [h0, nI_0] at g1
    rw [g1]
    exact e1
  · rw [e3 p i p0 p17 p19, zgz_ne p0, g3 p i p16 p17 p18]
  · rw [e4 i hi, zgz_nj hi, g3 0 i (by decide) (by decide) (by decide)]
  · rw [e5, zgl_zs, g4]
