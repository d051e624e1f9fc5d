/-! image, restore -/
theorem zcp_n (n : Nat) (hn : n < 2 ^ 30) (r : zR) : zcpin (nI 0) (nI 0) (nI n) n n r = r := zcpin_ok (a := 0) (b := 0) (n := n) r (by omega) (by omega) hn hn
theorem zcp16 (r : zR) : zcpin (0 : Int32) (0 : Int32) (16 : Int32) 16 16 r = r := zcp_n 16 (by decide) r
theorem zcp48 (r : zR) : zcpin (0 : Int32) (0 : Int32) (48 : Int32) 48 48 r = r := zcp_n 48 (by decide) r
theorem zcp256 (r : zR) : zcpin (0 : Int32) (0 : Int32) (256 : Int32) 256 256 r = r := zcp_n 256 (by decide) r
theorem zcp192 (r : zR) : zcpin (0 : Int32) (0 : Int32) (192 : Int32) 192 192 r = r := zcp_n 192 (by decide) r
theorem cl48 : Int32.toNatClampNeg (48 : Int32) = 48 := by decide
theorem cl192 : Int32.toNatClampNeg (192 : Int32) = 192 := by decide
theorem cl256 : Int32.toNatClampNeg (256 : Int32) = 256 := by decide
theorem sX_take (d : Nat) (s : zS) : ∃ s', zcall zMs skX (d + 1) 81 [.inr (.inr 22), .inr (.inr 2)] s = some (none, s') ∧ (∀ p i, (p < 22 ∨ 32 ≤ p) → zg s' p i = zg s p i) ∧ (zg s' 22 0 = zg s 2 0 ∧ zg s' 22 1 = zg s 2 1 ∧ zg s' 22 2 = zg s 2 2) ∧ (∀ i, i < 16 → zg s' 23 i = zg s 3 i) ∧ (∀ i, i < 16 → zg s' 24 i = zg s 4 i) ∧ (∀ i, i < 48 → zg s' 25 i = zg s 5 i) ∧ (∀ i, i < 16 → zg s' 26 i = zg s 6 i) ∧ (∀ i, i < 256 → zg s' 27 i = zg s 7 i) ∧ (∀ i, i < 256 → zg s' 28 i = zg s 8 i) ∧ (∀ i, i < 256 → zg s' 29 i = zg s 9 i) ∧ (∀ i, i < 256 → zg s' 30 i = zg s 10 i) ∧ (∀ i, i < 192 → zg s' 31 i = zg s 11 i) ∧ (∀ p i, zgl s' p i = zgl s p i) := by
  rw [aX_W_takeFrom]
  unfold bX_W_takeFrom_0
  simp only [zcp16, zcp48, zcp256, zcp192, cl0, cl16, cl48, cl192, cl256]
  refine ⟨_, rfl, ?_, ⟨?_, ?_, ?_⟩, ?_, ?_, ?_, ?_, ?_, ?_, ?_, ?_, ?_, fun _ _ => rfl⟩
  · intro p i hp
    simp only [zg_zsc, zg_zs, show ¬ p = 22 by omega, show ¬ p = 23 by omega, show ¬ p = 24 by omega, show ¬ p = 25 by omega, show ¬ p = 26 by omega, show ¬ p = 27 by omega, show ¬ p = 28 by omega, show ¬ p = 29 by omega, show ¬ p = 30 by omega, show ¬ p = 31 by omega, if_false]
  · rfl
  · rfl
  · rfl
  · intro i hi
    simp [zg_zsc, zg_zs, hi]
  · intro i hi
    simp [zg_zsc, zg_zs, hi]
  · intro i hi
    simp [zg_zsc, zg_zs, hi]
  · intro i hi
    simp [zg_zsc, zg_zs, hi]
  · intro i hi
    simp [zg_zsc, zg_zs, hi]
  · intro i hi
    simp [zg_zsc, zg_zs, hi]
  · intro i hi
    simp [zg_zsc, zg_zs, hi]
  · intro i hi
    simp [zg_zsc, zg_zs, hi]
  · intro i hi
    simp [zg_zsc, zg_zs, hi]

theorem sX_back (d : Nat) (s : zS) : ∃ s', zcall zMs skX (d + 1) 81 [.inr (.inr 2), .inr (.inr 22)] s = some (none, s') ∧ (∀ p i, (p < 2 ∨ 12 ≤ p) → zg s' p i = zg s p i) ∧ (zg s' 2 0 = zg s 22 0 ∧ zg s' 2 1 = zg s 22 1 ∧ zg s' 2 2 = zg s 22 2) ∧ (∀ i, i < 16 → zg s' 3 i = zg s 23 i) ∧ (∀ i, i < 16 → zg s' 4 i = zg s 24 i) ∧ (∀ i, i < 48 → zg s' 5 i = zg s 25 i) ∧ (∀ i, i < 16 → zg s' 6 i = zg s 26 i) ∧ (∀ i, i < 256 → zg s' 7 i = zg s 27 i) ∧ (∀ i, i < 256 → zg s' 8 i = zg s 28 i) ∧ (∀ i, i < 256 → zg s' 9 i = zg s 29 i) ∧ (∀ i, i < 256 → zg s' 10 i = zg s 30 i) ∧ (∀ i, i < 192 → zg s' 11 i = zg s 31 i) ∧ (∀ p i, zgl s' p i = zgl s p i) := by
  rw [aX_W_takeFrom_2_22]
  unfold bX_W_takeFrom_2_22_0
  simp only [zcp16, zcp48, zcp256, zcp192, cl0, cl16, cl48, cl192, cl256]
  refine ⟨_, rfl, ?_, ⟨?_, ?_, ?_⟩, ?_, ?_, ?_, ?_, ?_, ?_, ?_, ?_, ?_, fun _ _ => rfl⟩
  · intro p i hp
    simp only [zg_zsc, zg_zs, show ¬ p = 2 by omega, show ¬ p = 3 by omega, show ¬ p = 4 by omega, show ¬ p = 5 by omega, show ¬ p = 6 by omega, show ¬ p = 7 by omega, show ¬ p = 8 by omega, show ¬ p = 9 by omega, show ¬ p = 10 by omega, show ¬ p = 11 by omega, if_false]
  · rfl
  · rfl
  · rfl
  · intro i hi
    simp [zg_zsc, zg_zs, hi]
  · intro i hi
    simp [zg_zsc, zg_zs, hi]
  · intro i hi
    simp [zg_zsc, zg_zs, hi]
  · intro i hi
    simp [zg_zsc, zg_zs, hi]
  · intro i hi
    simp [zg_zsc, zg_zs, hi]
  · intro i hi
    simp [zg_zsc, zg_zs, hi]
  · intro i hi
    simp [zg_zsc, zg_zs, hi]
  · intro i hi
    simp [zg_zsc, zg_zs, hi]
  · intro i hi
    simp [zg_zsc, zg_zs, hi]

theorem aX_cp {a b : Nat} {s s' : zS} {W : aW} (hf : aWf W) (h0 : zg s' b 0 = zg s a 0) (h1 : zg s' b 1 = zg s a 1) (h2 : zg s' b 2 = zg s a 2) (k1 : ∀ i, i < 16 → zg s' (b + 1) i = zg s (a + 1) i) (k2 : ∀ i, i < 16 → zg s' (b + 2) i = zg s (a + 2) i) (k3 : ∀ i, i < 48 → zg s' (b + 3) i = zg s (a + 3) i) (k4 : ∀ i, i < 16 → zg s' (b + 4) i = zg s (a + 4) i) (k5 : ∀ i, i < 256 → zg s' (b + 5) i = zg s (a + 5) i) (k6 : ∀ i, i < 256 → zg s' (b + 6) i = zg s (a + 6) i) (k7 : ∀ i, i < 256 → zg s' (b + 7) i = zg s (a + 7) i) (k8 : ∀ i, i < 256 → zg s' (b + 8) i = zg s (a + 8) i) (k9 : ∀ i, i < 192 → zg s' (b + 9) i = zg s (a + 9) i) (hX : aX a s W) : aX b s' W := by
  obtain ⟨x1, x2, x3, x4, x5, x6⟩ := hX
  have hw := hf.2.1
  refine ⟨h0.trans x1, h1.trans x2, h2.trans x3, ?_, ?_, ?_⟩
  · intro o ho
    have h16 := aWf_lt hf ho
    obtain ⟨y1, y2, y3, y4, y5⟩ := x4 o ho
    have hpl := (hf.2.2.1 o ho).2.1
    have hol := aWf_len hf ho
    refine ⟨(k1 o h16).trans y1, (k2 o h16).trans y2, fun i p hp => ?_, (k4 o h16).trans y4, fun i p hp => ?_⟩
    · have := (List.getElem?_eq_some_iff.mp hp).1
      exact (k3 _ (by omega)).trans (y3 i p hp)
    · have := (List.getElem?_eq_some_iff.mp hp).1
      exact (k5 _ (by omega)).trans (y5 i p hp)
  · intro o i ho hi
    have h16 := aWf_lt hf ho
    obtain ⟨y1, y2⟩ := x5 o i ho hi
    refine ⟨(k6 _ (by omega)).trans y1, fun hz => ?_⟩
    obtain ⟨y3, y4⟩ := y2 hz
    exact ⟨(k7 _ (by omega)).trans y3, (k8 _ (by omega)).trans y4⟩
  · intro w u hw2 hu
    exact (k9 _ (by omega)).trans (x6 w u hw2 hu)
theorem aM_congr {f g : Nat → Int32} {W : aW} (hf : aWf W) (h : ∀ i, i < 1091 → g i = f i) (hM : aM f W) : aM g W := by
  obtain ⟨m1, m2, m3, m4, m5, m6, m7⟩ := hM
  have hw := hf.2.1
  refine ⟨(h _ (by omega)).trans m1, (h _ (by omega)).trans m2, (h _ (by omega)).trans m3, ?_, ?_, ?_, ?_⟩
  · intro o ho
    have h16 := aWf_lt hf ho
    obtain ⟨q1, q2, q3, q4, q5⟩ := m4 o ho
    refine ⟨(h _ (by omega)).trans q1, (h _ (by omega)).trans q2, fun i hi => (h _ (by omega)).trans (q3 i hi), (h _ (by omega)).trans q4, fun i p hp => ?_⟩
    have := (List.getElem?_eq_some_iff.mp hp).1
    have := aWf_len hf ho
    exact (h _ (by omega)).trans (q5 i p hp)
  · intro o ho
    have h16 := aWf_lt hf ho
    obtain ⟨q1, q2⟩ := m5 o ho
    exact ⟨(h _ (by omega)).trans q1, (h _ (by omega)).trans q2⟩
  · intro o i ho hi hz
    have h16 := aWf_lt hf ho
    obtain ⟨q1, q2⟩ := m6 o i ho hi hz
    exact ⟨(h _ (by omega)).trans q1, (h _ (by omega)).trans q2⟩
  · intro w u hw2 hu
    exact (h _ (by omega)).trans (m7 w u hw2 hu)
/-- the reference's image, taken back -/
theorem aMz_img {f : Nat → Int32} {t : zS} {W : aW} (hf : aWf W) (h0 : zg t 0 0 = f 1088) (h10 : zg t 0 10 = f 1089) (h12 : zg t 0 12 = f 1090) (k6 : ∀ i, i < 16 → zg t 6 i = f i) (k7 : ∀ i, i < 16 → zg t 7 i = f (16 + i)) (k8 : ∀ i, i < 256 → zg t 8 i = f (32 + i)) (k9 : ∀ i, i < 256 → zg t 9 i = f (288 + i)) (k1 : ∀ i, i < 16 → zg t 1 i = f (544 + i)) (k2 : ∀ i, i < 16 → zg t 2 i = f (560 + i)) (k4 : ∀ i, i < 16 → zg t 4 i = f (576 + i)) (k3 : ∀ i, i < 48 → zg t 3 i = f (592 + i)) (k5 : ∀ i, i < 256 → zg t 5 i = f (640 + i)) (k10 : ∀ i, i < 192 → zg t 10 i = f (896 + i)) (hM : aM f W) : aMz t W := by
  obtain ⟨m1, m2, m3, m4, m5, m6, m7⟩ := hM
  have hw := hf.2.1
  refine ⟨h0.trans m1, h10.trans m2, h12.trans m3, ?_, ?_, ?_, ?_⟩
  · intro o ho
    have h16 := aWf_lt hf ho
    obtain ⟨q1, q2, q3, q4, q5⟩ := m4 o ho
    refine ⟨(k1 _ h16).trans q1, (k2 _ h16).trans q2, fun i hi => (k3 _ (by omega)).trans (q3 i hi), (k4 _ h16).trans q4, fun i p hp => ?_⟩
    have := (List.getElem?_eq_some_iff.mp hp).1
    have := aWf_len hf ho
    exact (k5 _ (by omega)).trans (q5 i p hp)
  · intro o ho
    have h16 := aWf_lt hf ho
    obtain ⟨q1, q2⟩ := m5 o ho
    exact ⟨(k6 _ h16).trans q1, (k7 _ h16).trans q2⟩
  · intro o i ho hi hz
    have h16 := aWf_lt hf ho
    obtain ⟨q1, q2⟩ := m6 o i ho hi hz
    exact ⟨(k8 _ (by omega)).trans q1, (k9 _ (by omega)).trans q2⟩
  · intro w u hw2 hu
    exact (k10 _ (by omega)).trans (m7 w u hw2 hu)

theorem sM_im_a (C : Nat → List zV → zS → zR) (t : zS) : ∀ (f m j : Nat), j + f = 16 → zexec skM C zT_M_image 1 (m + f) 9 [some (.inr (.inr 0)), some (.inl (nI j))] [] (zM t (fun p i => p = 24 ∧ (i < 544 + j ∨ (560 ≤ i ∧ i < 560 + j) ∨ (576 ≤ i ∧ i < 576 + j))) (fun _ i => mFl t i)) = zexec skM C zT_M_image 1 m 9 [some (.inr (.inr 0)), some (.inl (nI 16))] [] (zM t (fun p i => p = 24 ∧ (i < 544 + 16 ∨ (560 ≤ i ∧ i < 560 + 16) ∨ (576 ≤ i ∧ i < 576 + 16))) (fun _ i => mFl t i)) := by
  intro f
  induction f with
  | zero =>
    intro m j hj
    obtain rfl : j = 16 := by omega
    rfl
  | succ f ih =>
    intro m j hj
    rw [show m + (f + 1) = (m + f) + 1 by omega, hM_M_image_9]
    unfold bM_M_image_9
    rw [if_neg (show ¬ (16 : Int32) ≤ nI j from nI_ge (show j < 16 by omega) (by decide))]
    simp only [nA544, nA560, nA576, zin_nI (show 544 + j < 1108 by omega) (show 1108 < 2 ^ 31 by decide), nI_clamp (show 544 + j < 2 ^ 31 by omega), zin_nI (show j < 16 by omega) (show 16 < 2 ^ 31 by decide), nI_clamp (show j < 2 ^ 31 by omega), zin_nI (show 560 + j < 1108 by omega) (show 1108 < 2 ^ 31 by decide), nI_clamp (show 560 + j < 2 ^ 31 by omega), zin_nI (show 576 + j < 1108 by omega) (show 1108 < 2 ^ 31 by decide), nI_clamp (show 576 + j < 2 ^ 31 by omega), nI_1]
    rw [← ih m (j + 1) (by omega)]
    congr 1
    rw [zM_out (t := t) (P := fun p i => p = 24 ∧ (i < 544 + j ∨ (560 ≤ i ∧ i < 560 + j) ∨ (576 ≤ i ∧ i < 576 + j))) (f := (fun _ i => mFl t i)) (p := 1) (i := j) (by first | omega | (dsimp only; omega))]
    rw [zM_out (t := t) (P := fun p i => p = 24 ∧ (i < 544 + j ∨ (560 ≤ i ∧ i < 560 + j) ∨ (576 ≤ i ∧ i < 576 + j))) (f := (fun _ i => mFl t i)) (p := 2) (i := j) (by first | omega | (dsimp only; omega))]
    rw [zM_out (t := t) (P := fun p i => p = 24 ∧ (i < 544 + j ∨ (560 ≤ i ∧ i < 560 + j) ∨ (576 ≤ i ∧ i < 576 + j))) (f := (fun _ i => mFl t i)) (p := 4) (i := j) (by first | omega | (dsimp only; omega))]
    rw [zM_step (f := (fun _ i => mFl t i)) (p := 24) (i := 544 + j) (v := zg t 1 (j)) ((mFl_kind t j (by omega)).symm)]
    rw [zM_step (f := (fun _ i => mFl t i)) (p := 24) (i := 560 + j) (v := zg t 2 (j)) ((mFl_pars t j (by omega)).symm)]
    rw [zM_step (f := (fun _ i => mFl t i)) (p := 24) (i := 576 + j) (v := zg t 4 (j)) ((mFl_ordd t j (by omega)).symm)]
    exact zM_congr (fun p i => by first | omega | (dsimp only; omega))

theorem sM_im_b (C : Nat → List zV → zS → zR) (t : zS) : ∀ (f m j : Nat), j + f = 48 → zexec skM C zT_M_image 1 (m + f) 46 [some (.inr (.inr 0)), some (.inl (nI j))] [] (zM t (fun p i => p = 24 ∧ i < 592 + j) (fun _ i => mFl t i)) = zexec skM C zT_M_image 1 m 46 [some (.inr (.inr 0)), some (.inl (nI 48))] [] (zM t (fun p i => p = 24 ∧ i < 592 + 48) (fun _ i => mFl t i)) := by
  intro f
  induction f with
  | zero =>
    intro m j hj
    obtain rfl : j = 48 := by omega
    rfl
  | succ f ih =>
    intro m j hj
    rw [show m + (f + 1) = (m + f) + 1 by omega, hM_M_image_46]
    unfold bM_M_image_46
    rw [if_neg (show ¬ (48 : Int32) ≤ nI j from nI_ge (show j < 48 by omega) (by decide))]
    simp only [nA592, zin_nI (show 592 + j < 1108 by omega) (show 1108 < 2 ^ 31 by decide), nI_clamp (show 592 + j < 2 ^ 31 by omega), zin_nI (show j < 48 by omega) (show 48 < 2 ^ 31 by decide), nI_clamp (show j < 2 ^ 31 by omega), nI_1]
    rw [← ih m (j + 1) (by omega)]
    congr 1
    rw [zM_out (t := t) (P := fun p i => p = 24 ∧ i < 592 + j) (f := (fun _ i => mFl t i)) (p := 3) (i := j) (by first | omega | (dsimp only; omega))]
    rw [zM_step (f := (fun _ i => mFl t i)) (p := 24) (i := 592 + j) (v := zg t 3 (j)) ((mFl_par t j (by omega)).symm)]
    exact zM_congr (fun p i => by first | omega | (dsimp only; omega))

theorem sM_im_c (C : Nat → List zV → zS → zR) (t : zS) : ∀ (f m j : Nat), j + f = 256 → zexec skM C zT_M_image 1 (m + f) 63 [some (.inr (.inr 0)), some (.inl (nI j))] [] (zM t (fun p i => p = 24 ∧ i < 640 + j) (fun _ i => mFl t i)) = zexec skM C zT_M_image 1 m 63 [some (.inr (.inr 0)), some (.inl (nI 256))] [] (zM t (fun p i => p = 24 ∧ i < 640 + 256) (fun _ i => mFl t i)) := by
  intro f
  induction f with
  | zero =>
    intro m j hj
    obtain rfl : j = 256 := by omega
    rfl
  | succ f ih =>
    intro m j hj
    rw [show m + (f + 1) = (m + f) + 1 by omega, hM_M_image_63]
    unfold bM_M_image_63
    rw [if_neg (show ¬ (256 : Int32) ≤ nI j from nI_ge (show j < 256 by omega) (by decide))]
    simp only [nA640, zin_nI (show 640 + j < 1108 by omega) (show 1108 < 2 ^ 31 by decide), nI_clamp (show 640 + j < 2 ^ 31 by omega), zin_nI (show j < 256 by omega) (show 256 < 2 ^ 31 by decide), nI_clamp (show j < 2 ^ 31 by omega), nI_1]
    rw [← ih m (j + 1) (by omega)]
    congr 1
    rw [zM_out (t := t) (P := fun p i => p = 24 ∧ i < 640 + j) (f := (fun _ i => mFl t i)) (p := 5) (i := j) (by first | omega | (dsimp only; omega))]
    rw [zM_step (f := (fun _ i => mFl t i)) (p := 24) (i := 640 + j) (v := zg t 5 (j)) ((mFl_ord t j (by omega)).symm)]
    exact zM_congr (fun p i => by first | omega | (dsimp only; omega))

theorem sM_im_d (C : Nat → List zV → zS → zR) (t : zS) : ∀ (f m j : Nat), j + f = 192 → zexec skM C zT_M_image 1 (m + f) 80 [some (.inr (.inr 0)), some (.inl (nI j))] [] (zM t (fun p i => p = 24 ∧ i < 896 + j) (fun _ i => mFl t i)) = zexec skM C zT_M_image 1 m 80 [some (.inr (.inr 0)), some (.inl (nI 192))] [] (zM t (fun p i => p = 24 ∧ i < 896 + 192) (fun _ i => mFl t i)) := by
  intro f
  induction f with
  | zero =>
    intro m j hj
    obtain rfl : j = 192 := by omega
    rfl
  | succ f ih =>
    intro m j hj
    rw [show m + (f + 1) = (m + f) + 1 by omega, hM_M_image_80]
    unfold bM_M_image_80
    rw [if_neg (show ¬ (192 : Int32) ≤ nI j from nI_ge (show j < 192 by omega) (by decide))]
    simp only [nA896, zin_nI (show 896 + j < 1108 by omega) (show 1108 < 2 ^ 31 by decide), nI_clamp (show 896 + j < 2 ^ 31 by omega), zin_nI (show j < 192 by omega) (show 192 < 2 ^ 31 by decide), nI_clamp (show j < 2 ^ 31 by omega), nI_1]
    rw [← ih m (j + 1) (by omega)]
    congr 1
    rw [zM_out (t := t) (P := fun p i => p = 24 ∧ i < 896 + j) (f := (fun _ i => mFl t i)) (p := 10) (i := j) (by first | omega | (dsimp only; omega))]
    rw [zM_step (f := (fun _ i => mFl t i)) (p := 24) (i := 896 + j) (v := zg t 10 (j)) ((mFl_way t j (by omega)).symm)]
    exact zM_congr (fun p i => by first | omega | (dsimp only; omega))

theorem mFl_last (t : zS) : mFl t 1088 = zg t 0 0 ∧ mFl t 1089 = zg t 0 10 ∧ mFl t 1090 = zg t 0 12 := ⟨rfl, rfl, rfl⟩
theorem sM_image1 (d : Nat) (t : zS) : ∃ t', zcV (zcall zMs skM (d + 1) 209 [.inr (.inr 0), .inr (.inr 24)] t) (fun s102 => zexec skM (zcall zMs skM (d + 1)) zT_M_image 1 19999 9 [some (.inr (.inr 0)), some (.inl (0 : Int32))] [] s102) = some (some (.inl (zg t 0 0)), t') ∧ (∀ i, i < 1091 → zg t' 24 i = mFl t i) ∧ (∀ p i, p ≠ 24 → zg t' p i = zg t p i) ∧ (∀ p i, zgl t' p i = zgl t p i) := by
  have h1 := sM_im_a (zcall zMs skM (d + 1)) t 16 19983 0 rfl
  have h2 := sM_im_b (zcall zMs skM (d + 1)) t 48 19934 0 rfl
  have h3 := sM_im_c (zcall zMs skM (d + 1)) t 256 19677 0 rfl
  have h4 := sM_im_d (zcall zMs skM (d + 1)) t 192 19484 0 rfl
  rw [nI_0] at h1 h2 h3 h4
  rw [sM_keep24, zcV_some, zM_congr (Q := fun p i => p = 24 ∧ (i < 544 + 0 ∨ (560 ≤ i ∧ i < 560 + 0) ∨ (576 ≤ i ∧ i < 576 + 0))) (fun p i => by first | omega | (dsimp only; omega)), show (19999 : Nat) = 19983 + 16 from rfl, h1, hM_M_image_9 _ 19982]
  unfold bM_M_image_9
  rw [if_pos (show (16 : Int32) ≤ nI 16 by decide), zM_congr (Q := fun p i => p = 24 ∧ i < 592 + 0) (fun p i => by first | omega | (dsimp only; omega)), show (19982 : Nat) = 19934 + 48 from rfl, h2, hM_M_image_46 _ 19933]
  unfold bM_M_image_46
  rw [if_pos (show (48 : Int32) ≤ nI 48 by decide), zM_congr (Q := fun p i => p = 24 ∧ i < 640 + 0) (fun p i => by first | omega | (dsimp only; omega)), show (19933 : Nat) = 19677 + 256 from rfl, h3, hM_M_image_63 _ 19676]
  unfold bM_M_image_63
  rw [if_pos (show (256 : Int32) ≤ nI 256 by decide), zM_congr (Q := fun p i => p = 24 ∧ i < 896 + 0) (fun p i => by first | omega | (dsimp only; omega)), show (19676 : Nat) = 19484 + 192 from rfl, h4, hM_M_image_80 _ 19483]
  unfold bM_M_image_80
  rw [if_pos (show (192 : Int32) ≤ nI 192 by decide)]
  have z0' : ∀ i, zg (zM t (fun p i => p = 24 ∧ i < 896 + 192) (fun _ i => mFl t i)) 0 i = zg t 0 i := fun i => zM_out (fun h => absurd h.1 (by decide))
  rw [z0', z0', z0']
  refine ⟨_, rfl, fun i hi => ?_, fun p i hp => ?_, fun _ _ => rfl⟩
  · obtain ⟨l1, l2, l3⟩ := mFl_last t
    by_cases h8 : i = 1090
    · rw [h8, zgz_eq, l3]
    · rw [zgz_nj h8]
      by_cases h9 : i = 1089
      · rw [h9, zgz_eq, l2]
      · rw [zgz_nj h9]
        by_cases h7 : i = 1088
        · rw [h7, zgz_eq, l1]
        · rw [zgz_nj h7, zM_in (P := fun p i => p = 24 ∧ i < 896 + 192) ⟨rfl, by omega⟩]
  · rw [zgz_ne hp, zgz_ne hp, zgz_ne hp, zM_out (fun h => hp h.1)]
theorem sim_image : zSim aRel 114 211 [] := by
  intro s t h
  obtain ⟨d, hd⟩ := zDp_8
  rw [hd]
  obtain ⟨W, hf, hX, hM, h4, h5, h6⟩ := id h
  obtain ⟨s1, f1, f2, ⟨f30, f31, f32⟩, g1, g2, g3, g4, g5, g6, g7, g8, g9, f5⟩ := sX_take (d + 6) s
  obtain ⟨t1, e1, e2, e3, e4⟩ := sM_image1 (d + 6) (zs t 0 39 1)
  have hX' : aX 22 (zs s1 0 7 1) W := by
    have : aX 22 s1 W := aX_cp (a := 2) hf f30 f31 f32 g1 g2 g3 g4 g5 g6 g7 g8 g9 hX
    unfold aX at this ⊢
    exact this
  have hM' : aM (fun i => zg t1 24 i) W := aM_congr hf (fun i hi => (e2 i hi)) (show aM (mFl (zs t 0 39 1)) W from hM)
  refine ⟨nI (aN W), zs s1 0 7 1, t1, ?_, ?_, W, hf, ?_, ?_, ?_, ?_, Or.inr ⟨rfl, ?_, W, hf, hX', hM'⟩⟩
  · rw [aX_X_image]
    unfold bX_X_image_0
    rw [f1, zcV_some, zbo_1, f30, hX.1]
  · rw [aM_M_image]
    unfold bM_M_image_0
    rw [zbo_1]
    dsimp only
    refine e1.trans ?_
    rw [zgz_nj (by decide), (aMz_of hf hM).1]
  · exact aX_fr (fun p h2 h11 i => by rw [zgz_ne (by omega), f2 p i (by omega)]) hX
  · have hmf : mFl t1 = mFl t := by
      funext i
      have hp : ∀ p j, p ≠ 0 → p ≠ 24 → zg t1 p j = zg t p j := fun p j p0 p24 => (e3 p j p24).trans (zgz_ne p0)
      have h0 : ∀ j, j ≠ 39 → zg t1 0 j = zg t 0 j := fun j hj => (e3 0 j (by decide)).trans (zgz_nj hj)
      unfold mFl
      rw [hp 6 _ (by decide) (by decide), hp 7 _ (by decide) (by decide), hp 8 _ (by decide) (by decide), hp 9 _ (by decide) (by decide), hp 1 _ (by decide) (by decide), hp 2 _ (by decide) (by decide), hp 4 _ (by decide) (by decide), hp 3 _ (by decide) (by decide), hp 5 _ (by decide) (by decide), hp 10 _ (by decide) (by decide), h0 0 (by decide), h0 10 (by decide), h0 12 (by decide)]
    rw [hmf]
    exact hM
  · intro k hk
    have := h4 k hk
    have a1 : ∀ p i, (p = 33 ∨ p = 34) → zg (zs s1 0 7 1) p i = zg s p i := fun p i hp => by rw [zgz_ne (by omega), f2 p i (by omega)]
    have a2 : ∀ p i, (p = 11 ∨ p = 12) → zg t1 p i = zg t p i := fun p i hp => by rw [e3 p i (by omega), zgz_ne (by omega)]
    have a3 : ∀ p i, zgl (zs s1 0 7 1) p i = zgl s p i := fun p i => f5 p i
    have a4 : ∀ p i, zgl t1 p i = zgl t p i := fun p i => e4 p i
    simp only [a1 33 _ (Or.inl rfl), a1 34 _ (Or.inr rfl), a2 11 _ (Or.inl rfl), a2 12 _ (Or.inr rfl), a3, a4]
    exact this
  · obtain ⟨r1, r2, r3, r4, k, hk, r5, r6, r7⟩ := h5
    have b0 : ∀ j, j ≠ 7 → zg (zs s1 0 7 1) 0 j = zg s 0 j := fun j hj => by rw [zgz_nj hj, f2 0 j (by omega)]
    have c0 : ∀ j, j ≠ 39 → zg t1 0 j = zg t 0 j := fun j hj => (e3 0 j (by decide)).trans (zgz_nj hj)
    refine ⟨fun j hj => ?_, ?_, ?_, ?_, k, hk, ?_, ?_, fun i hi hi30 => ?_⟩
    · rw [zgz_ne (by decide), f2 44 j (by omega), e3 15 j (by decide), zgz_ne (by decide), r1 j hj]
    · rw [b0 8 (by decide), c0 16 (by decide), r2]
    · rw [b0 9 (by decide), c0 30 (by decide), r3]
    · rw [b0 10 (by decide), c0 31 (by decide), r4]
    · rw [zgz_ne (by decide), f2 1 3 (by omega), r5]
    · rw [c0 32 (by decide), r6]
    · rw [zgz_ne (by decide), f2 17 i (by omega), e3 21 i (by decide), zgz_ne (by decide), r7 i hi hi30]
  · rw [e3 0 39 (by decide), zgz_eq]
