/-! COPIES: a state with some cells changed -/
noncomputable def zM (t : zS) (P : Nat → Nat → Prop) (f : Nat → Nat → Int32) : zS := (fun p i => @ite _ (P p i) (Classical.propDecidable _) (f p i) (zg t p i), t.2)
theorem zM_in {t : zS} {P : Nat → Nat → Prop} {f : Nat → Nat → Int32} {p i : Nat} (h : P p i) : zg (zM t P f) p i = f p i := if_pos h
theorem zM_out {t : zS} {P : Nat → Nat → Prop} {f : Nat → Nat → Int32} {p i : Nat} (h : ¬ P p i) : zg (zM t P f) p i = zg t p i := if_neg h
theorem zM_l (t : zS) (P : Nat → Nat → Prop) (f : Nat → Nat → Int32) (p i : Nat) : zgl (zM t P f) p i = zgl t p i := rfl
theorem zS_ext {s t : zS} (h : ∀ p i, zg s p i = zg t p i) (hl : ∀ p i, zgl s p i = zgl t p i) : s = t := by
  have h1 : s.1 = t.1 := funext fun p => funext fun i => h p i
  have h2 : s.2 = t.2 := funext fun p => funext fun i => hl p i
  exact Prod.ext h1 h2
theorem zM_congr {t : zS} {P Q : Nat → Nat → Prop} {f : Nat → Nat → Int32} (h : ∀ p i, P p i ↔ Q p i) : zM t P f = zM t Q f := by
  have : P = Q := funext fun p => funext fun i => propext (h p i)
  rw [this]
theorem zM_0 {t : zS} {P : Nat → Nat → Prop} {f : Nat → Nat → Int32} (h : ∀ p i, ¬ P p i) : t = zM t P f :=
  zS_ext (fun p i => (zM_out (h p i)).symm) (fun _ _ => rfl)
theorem zM_or {t : zS} {P R : Nat → Nat → Prop} {f : Nat → Nat → Int32} {p i : Nat} (h : ¬ R p i) : zg (zM t P f) p i = zg (zM t (fun a b => P a b ∨ R a b) f) p i := by
  by_cases h3 : P p i
  · rw [zM_in h3, zM_in (P := fun a b => P a b ∨ R a b) (Or.inl h3)]
  · rw [zM_out h3, zM_out (P := fun a b => P a b ∨ R a b) (fun g => g.elim h3 h)]
theorem zM_step {t : zS} {P : Nat → Nat → Prop} {f : Nat → Nat → Int32} {p i : Nat} {v : Int32} (hv : v = f p i) : zs (zM t P f) p i v = zM t (fun a b => P a b ∨ (a = p ∧ b = i)) f := by
  refine zS_ext (fun a b => ?_) (fun _ _ => rfl)
  by_cases h1 : a = p ∧ b = i
  · obtain ⟨rfl, rfl⟩ := h1
    rw [zg_zs, if_pos rfl, if_pos rfl, zM_in (P := fun a' b' => P a' b' ∨ (a' = a ∧ b' = b)) (Or.inr ⟨rfl, rfl⟩)]
    exact hv
  · refine Eq.trans ?_ (zM_or (R := fun a b => a = p ∧ b = i) h1)
    rw [zg_zs]
    by_cases h2 : a = p
    · rw [if_pos h2, if_neg (fun h => h1 ⟨h2, h⟩)]
    · rw [if_neg h2]
theorem zg_zsc (s : zS) (a b sp dp n p i : Nat) : zg (zsc s a b sp dp n) p i = if p = b then (if dp ≤ i ∧ i < dp + n then zg s a (sp + (i - dp)) else zg s b i) else zg s p i := rfl
theorem zM_cp {t : zS} {P : Nat → Nat → Prop} {f : Nat → Nat → Int32} {a b sp dp n : Nat} (hv : ∀ i, i < n → f b (dp + i) = zg (zM t P f) a (sp + i)) : zsc (zM t P f) a b sp dp n = zM t (fun p i => P p i ∨ (p = b ∧ dp ≤ i ∧ i < dp + n)) f := by
  refine zS_ext (fun p i => ?_) (fun _ _ => rfl)
  by_cases h1 : p = b ∧ dp ≤ i ∧ i < dp + n
  · obtain ⟨rfl, h2, h3⟩ := h1
    rw [zg_zsc, if_pos rfl, if_pos ⟨h2, h3⟩, zM_in (P := fun p' i' => P p' i' ∨ (p' = p ∧ dp ≤ i' ∧ i' < dp + n)) (Or.inr ⟨rfl, h2, h3⟩), ← hv (i - dp) (by omega)]
    congr 1
    omega
  · refine Eq.trans ?_ (zM_or (R := fun p i => p = b ∧ dp ≤ i ∧ i < dp + n) h1)
    rw [zg_zsc]
    by_cases h2 : p = b
    · rw [if_pos h2, if_neg (fun h => h1 ⟨h2, h⟩), h2]
    · rw [if_neg h2]
theorem zcpin_ok {a b n n0 n1 : Nat} (r : zR) (h0 : a + n ≤ n0) (h1 : b + n ≤ n1) (hn : n0 < 2 ^ 30) (hn1 : n1 < 2 ^ 30) : zcpin (nI a) (nI b) (nI n) n0 n1 r = r := by
  unfold zcpin
  rw [nI_clamp (by omega), nI_clamp (by omega), nI_clamp (by omega), if_neg]
  rintro (h | h | h | h | h)
  · exact nI_pos (by omega) h
  · exact nI_pos (by omega) h
  · exact nI_pos (by omega) h
  · omega
  · omega

theorem nA16 (k : Nat) : (16 : Int32) + nI k = nI (16 + k) := nI_add 16 k
theorem nA288 (k : Nat) : (288 : Int32) + nI k = nI (288 + k) := nI_add 288 k
theorem nA544 (k : Nat) : (544 : Int32) + nI k = nI (544 + k) := nI_add 544 k
theorem nA560 (k : Nat) : (560 : Int32) + nI k = nI (560 + k) := nI_add 560 k
theorem nA576 (k : Nat) : (576 : Int32) + nI k = nI (576 + k) := nI_add 576 k
theorem nA592 (k : Nat) : (592 : Int32) + nI k = nI (592 + k) := nI_add 592 k
theorem nA640 (k : Nat) : (640 : Int32) + nI k = nI (640 + k) := nI_add 640 k
theorem nA896 (k : Nat) : (896 : Int32) + nI k = nI (896 + k) := nI_add 896 k
/-- where a place of the reference's world stands in its image -/
def rOff (p : Nat) : Nat := if p = 6 then 0 else if p = 7 then 16 else if p = 8 then 32 else if p = 9 then 288 else if p = 1 then 544 else if p = 2 then 560 else if p = 4 then 576 else if p = 3 then 592 else if p = 5 then 640 else 896
theorem sM_keep24_a (C : Nat → List zV → zS → zR) (t : zS) : ∀ (f m j : Nat), j + f = 16 → zexec skM C zT_M_keepSlots 0 (m + f) 2 [some (.inr (.inr 0)), some (.inr (.inr 24)), some (.inl (nI j))] [] (zM t (fun p i => p = 24 ∧ (i < j ∨ (16 ≤ i ∧ i < 16 + j))) (fun _ i => mFl t i)) = zexec skM C zT_M_keepSlots 0 m 2 [some (.inr (.inr 0)), some (.inr (.inr 24)), some (.inl (nI 16))] [] (zM t (fun p i => p = 24 ∧ (i < 16 ∨ (16 ≤ i ∧ i < 16 + 16))) (fun _ i => mFl t i)) := by
  intro f
  induction f with
  | zero =>
    intro m j hj
    obtain rfl : j = 16 := by omega
    rfl
  | succ f ih =>
    intro m j hj
    rw [show m + (f + 1) = (m + f) + 1 by omega, hM_M_keepSlots_0_24_2]
    unfold bM_M_keepSlots_0_24_2
    rw [if_neg (show ¬ (16 : Int32) ≤ nI j from nI_ge (show j < 16 by omega) (by decide))]
    simp only [nA16, zin_nI (show j < 1108 by omega) (show 1108 < 2 ^ 31 by decide), nI_clamp (show j < 2 ^ 31 by omega), zin_nI (show j < 16 by omega) (show 16 < 2 ^ 31 by decide), nI_clamp (show j < 2 ^ 31 by omega), zin_nI (show 16 + j < 1108 by omega) (show 1108 < 2 ^ 31 by decide), nI_clamp (show 16 + j < 2 ^ 31 by omega), nI_1]
    rw [← ih m (j + 1) (by omega)]
    congr 1
    rw [zM_out (t := t) (P := fun p i => p = 24 ∧ (i < j ∨ (16 ≤ i ∧ i < 16 + j))) (f := (fun _ i => mFl t i)) (p := 6) (i := j) (by first | omega | (dsimp only; omega))]
    rw [zM_out (t := t) (P := fun p i => p = 24 ∧ (i < j ∨ (16 ≤ i ∧ i < 16 + j))) (f := (fun _ i => mFl t i)) (p := 7) (i := j) (by first | omega | (dsimp only; omega))]
    rw [zM_step (f := (fun _ i => mFl t i)) (p := 24) (i := j) (v := zg t 6 (j)) ((mFl_has t j (by omega)).symm)]
    rw [zM_step (f := (fun _ i => mFl t i)) (p := 24) (i := 16 + j) (v := zg t 7 (j)) ((mFl_met t j (by omega)).symm)]
    exact zM_congr (fun p i => by first | omega | (dsimp only; omega))

theorem sM_keep24_b (C : Nat → List zV → zS → zR) (t : zS) : ∀ (f m j : Nat), j + f = 256 → zexec skM C zT_M_keepSlots 0 (m + f) 25 [some (.inr (.inr 0)), some (.inr (.inr 24)), some (.inl (nI j))] [] (zM t (fun p i => p = 24 ∧ (i < 32 + j ∨ (288 ≤ i ∧ i < 288 + j))) (fun _ i => mFl t i)) = zexec skM C zT_M_keepSlots 0 m 25 [some (.inr (.inr 0)), some (.inr (.inr 24)), some (.inl (nI 256))] [] (zM t (fun p i => p = 24 ∧ (i < 32 + 256 ∨ (288 ≤ i ∧ i < 288 + 256))) (fun _ i => mFl t i)) := by
  intro f
  induction f with
  | zero =>
    intro m j hj
    obtain rfl : j = 256 := by omega
    rfl
  | succ f ih =>
    intro m j hj
    rw [show m + (f + 1) = (m + f) + 1 by omega, hM_M_keepSlots_0_24_25]
    unfold bM_M_keepSlots_0_24_25
    rw [if_neg (show ¬ (256 : Int32) ≤ nI j from nI_ge (show j < 256 by omega) (by decide))]
    simp only [n32a, nA288, zin_nI (show 32 + j < 1108 by omega) (show 1108 < 2 ^ 31 by decide), nI_clamp (show 32 + j < 2 ^ 31 by omega), zin_nI (show j < 256 by omega) (show 256 < 2 ^ 31 by decide), nI_clamp (show j < 2 ^ 31 by omega), zin_nI (show 288 + j < 1108 by omega) (show 1108 < 2 ^ 31 by decide), nI_clamp (show 288 + j < 2 ^ 31 by omega), nI_1]
    rw [← ih m (j + 1) (by omega)]
    congr 1
    rw [zM_out (t := t) (P := fun p i => p = 24 ∧ (i < 32 + j ∨ (288 ≤ i ∧ i < 288 + j))) (f := (fun _ i => mFl t i)) (p := 8) (i := j) (by first | omega | (dsimp only; omega))]
    rw [zM_out (t := t) (P := fun p i => p = 24 ∧ (i < 32 + j ∨ (288 ≤ i ∧ i < 288 + j))) (f := (fun _ i => mFl t i)) (p := 9) (i := j) (by first | omega | (dsimp only; omega))]
    rw [zM_step (f := (fun _ i => mFl t i)) (p := 24) (i := 32 + j) (v := zg t 8 (j)) ((mFl_fun t j (by omega)).symm)]
    rw [zM_step (f := (fun _ i => mFl t i)) (p := 24) (i := 288 + j) (v := zg t 9 (j)) ((mFl_num t j (by omega)).symm)]
    exact zM_congr (fun p i => by first | omega | (dsimp only; omega))

theorem sM_keep24 (d : Nat) (t : zS) : zcall zMs skM (d + 1) 209 [.inr (.inr 0), .inr (.inr 24)] t = some (none, zM t (fun p i => p = 24 ∧ i < 544) (fun _ i => mFl t i)) := by
  rw [aM_M_keepSlots_0_24]
  unfold bM_M_keepSlots_0_24_0
  have h1 := sM_keep24_a (zcall zMs skM d) t 16 19983 0 rfl
  have h2 := sM_keep24_b (zcall zMs skM d) t 256 19726 0 rfl
  rw [← zM_0 (t := t) (fun p i => by first | omega | (dsimp only; omega)), nI_0] at h1
  rw [show (19999 : Nat) = 19983 + 16 from rfl, h1, hM_M_keepSlots_0_24_2 _ 19982]
  unfold bM_M_keepSlots_0_24_2
  rw [if_pos (show (16 : Int32) ≤ nI 16 by decide)]
  rw [zM_congr (Q := fun p i => p = 24 ∧ (i < 32 + 0 ∨ (288 ≤ i ∧ i < 288 + 0))) (fun p i => by first | omega | (dsimp only; omega)), show (19982 : Nat) = 19726 + 256 from rfl, ← nI_0, h2, hM_M_keepSlots_0_24_25 _ 19725]
  unfold bM_M_keepSlots_0_24_25
  rw [if_pos (show (256 : Int32) ≤ nI 256 by decide)]
  exact congrArg (fun z => (some (none, z) : zR)) (zM_congr (fun p i => by first | omega | (dsimp only; omega)))

theorem sM_again24_a (C : Nat → List zV → zS → zR) (t : zS) : ∀ (f m j : Nat), j + f = 16 → zexec skM C zT_M_slotsAgain 0 (m + f) 2 [some (.inr (.inr 0)), some (.inr (.inr 24)), some (.inl (nI j))] [] (zM t (fun p i => (p = 6 ∨ p = 7) ∧ i < j) (fun p i => zg t 24 (rOff p + i))) = zexec skM C zT_M_slotsAgain 0 m 2 [some (.inr (.inr 0)), some (.inr (.inr 24)), some (.inl (nI 16))] [] (zM t (fun p i => (p = 6 ∨ p = 7) ∧ i < 16) (fun p i => zg t 24 (rOff p + i))) := by
  intro f
  induction f with
  | zero =>
    intro m j hj
    obtain rfl : j = 16 := by omega
    rfl
  | succ f ih =>
    intro m j hj
    rw [show m + (f + 1) = (m + f) + 1 by omega, hM_M_slotsAgain_0_24_2]
    unfold bM_M_slotsAgain_0_24_2
    rw [if_neg (show ¬ (16 : Int32) ≤ nI j from nI_ge (show j < 16 by omega) (by decide))]
    simp only [nA16, zin_nI (show j < 16 by omega) (show 16 < 2 ^ 31 by decide), nI_clamp (show j < 2 ^ 31 by omega), zin_nI (show j < 1108 by omega) (show 1108 < 2 ^ 31 by decide), nI_clamp (show j < 2 ^ 31 by omega), zin_nI (show 16 + j < 1108 by omega) (show 1108 < 2 ^ 31 by decide), nI_clamp (show 16 + j < 2 ^ 31 by omega), nI_1]
    rw [← ih m (j + 1) (by omega)]
    congr 1
    rw [zM_out (t := t) (P := fun p i => (p = 6 ∨ p = 7) ∧ i < j) (f := (fun p i => zg t 24 (rOff p + i))) (p := 24) (i := j) (by first | omega | (dsimp only; omega))]
    rw [zM_out (t := t) (P := fun p i => (p = 6 ∨ p = 7) ∧ i < j) (f := (fun p i => zg t 24 (rOff p + i))) (p := 24) (i := 16 + j) (by first | omega | (dsimp only; omega))]
    rw [zM_step (f := (fun p i => zg t 24 (rOff p + i))) (p := 6) (i := j) (v := zg t 24 (j)) (show _ = zg t 24 (0 + j) by rw [Nat.zero_add])]
    rw [zM_step (f := (fun p i => zg t 24 (rOff p + i))) (p := 7) (i := j) (v := zg t 24 (16 + j)) (rfl)]
    exact zM_congr (fun p i => by first | omega | (dsimp only; omega))

theorem sM_again24_b (C : Nat → List zV → zS → zR) (t : zS) : ∀ (f m j : Nat), j + f = 256 → zexec skM C zT_M_slotsAgain 0 (m + f) 25 [some (.inr (.inr 0)), some (.inr (.inr 24)), some (.inl (nI j))] [] (zM t (fun p i => ((p = 6 ∨ p = 7) ∧ i < 16) ∨ ((p = 8 ∨ p = 9) ∧ i < j)) (fun p i => zg t 24 (rOff p + i))) = zexec skM C zT_M_slotsAgain 0 m 25 [some (.inr (.inr 0)), some (.inr (.inr 24)), some (.inl (nI 256))] [] (zM t (fun p i => ((p = 6 ∨ p = 7) ∧ i < 16) ∨ ((p = 8 ∨ p = 9) ∧ i < 256)) (fun p i => zg t 24 (rOff p + i))) := by
  intro f
  induction f with
  | zero =>
    intro m j hj
    obtain rfl : j = 256 := by omega
    rfl
  | succ f ih =>
    intro m j hj
    rw [show m + (f + 1) = (m + f) + 1 by omega, hM_M_slotsAgain_0_24_25]
    unfold bM_M_slotsAgain_0_24_25
    rw [if_neg (show ¬ (256 : Int32) ≤ nI j from nI_ge (show j < 256 by omega) (by decide))]
    simp only [n32a, nA288, zin_nI (show j < 256 by omega) (show 256 < 2 ^ 31 by decide), nI_clamp (show j < 2 ^ 31 by omega), zin_nI (show 32 + j < 1108 by omega) (show 1108 < 2 ^ 31 by decide), nI_clamp (show 32 + j < 2 ^ 31 by omega), zin_nI (show 288 + j < 1108 by omega) (show 1108 < 2 ^ 31 by decide), nI_clamp (show 288 + j < 2 ^ 31 by omega), nI_1]
    rw [← ih m (j + 1) (by omega)]
    congr 1
    rw [zM_out (t := t) (P := fun p i => ((p = 6 ∨ p = 7) ∧ i < 16) ∨ ((p = 8 ∨ p = 9) ∧ i < j)) (f := (fun p i => zg t 24 (rOff p + i))) (p := 24) (i := 32 + j) (by first | omega | (dsimp only; omega))]
    rw [zM_out (t := t) (P := fun p i => ((p = 6 ∨ p = 7) ∧ i < 16) ∨ ((p = 8 ∨ p = 9) ∧ i < j)) (f := (fun p i => zg t 24 (rOff p + i))) (p := 24) (i := 288 + j) (by first | omega | (dsimp only; omega))]
    rw [zM_step (f := (fun p i => zg t 24 (rOff p + i))) (p := 8) (i := j) (v := zg t 24 (32 + j)) (rfl)]
    rw [zM_step (f := (fun p i => zg t 24 (rOff p + i))) (p := 9) (i := j) (v := zg t 24 (288 + j)) (rfl)]
    exact zM_congr (fun p i => by first | omega | (dsimp only; omega))

theorem sM_again24 (d : Nat) (t : zS) : zcall zMs skM (d + 1) 210 [.inr (.inr 0), .inr (.inr 24)] t = some (none, zM t (fun p i => ((p = 6 ∨ p = 7) ∧ i < 16) ∨ ((p = 8 ∨ p = 9) ∧ i < 256)) (fun p i => zg t 24 (rOff p + i))) := by
  rw [aM_M_slotsAgain_0_24]
  unfold bM_M_slotsAgain_0_24_0
  have h1 := sM_again24_a (zcall zMs skM d) t 16 19983 0 rfl
  have h2 := sM_again24_b (zcall zMs skM d) t 256 19726 0 rfl
  rw [← zM_0 (t := t) (fun p i => by first | omega | (dsimp only; omega)), nI_0] at h1
  rw [show (19999 : Nat) = 19983 + 16 from rfl, h1, hM_M_slotsAgain_0_24_2 _ 19982]
  unfold bM_M_slotsAgain_0_24_2
  rw [if_pos (show (16 : Int32) ≤ nI 16 by decide)]
  rw [zM_congr (Q := fun p i => ((p = 6 ∨ p = 7) ∧ i < 16) ∨ ((p = 8 ∨ p = 9) ∧ i < 0)) (fun p i => by first | omega | (dsimp only; omega)), show (19982 : Nat) = 19726 + 256 from rfl, ← nI_0, h2, hM_M_slotsAgain_0_24_25 _ 19725]
  unfold bM_M_slotsAgain_0_24_25
  rw [if_pos (show (256 : Int32) ≤ nI 256 by decide)]

theorem sM_keep25_a (C : Nat → List zV → zS → zR) (t : zS) : ∀ (f m j : Nat), j + f = 16 → zexec skM C zT_M_keepSlots 0 (m + f) 2 [some (.inr (.inr 0)), some (.inr (.inr 25)), some (.inl (nI j))] [] (zM t (fun p i => p = 25 ∧ (i < j ∨ (16 ≤ i ∧ i < 16 + j))) (fun _ i => mFl t i)) = zexec skM C zT_M_keepSlots 0 m 2 [some (.inr (.inr 0)), some (.inr (.inr 25)), some (.inl (nI 16))] [] (zM t (fun p i => p = 25 ∧ (i < 16 ∨ (16 ≤ i ∧ i < 16 + 16))) (fun _ i => mFl t i)) := by
  intro f
  induction f with
  | zero =>
    intro m j hj
    obtain rfl : j = 16 := by omega
    rfl
  | succ f ih =>
    intro m j hj
    rw [show m + (f + 1) = (m + f) + 1 by omega, hM_M_keepSlots_2]
    unfold bM_M_keepSlots_2
    rw [if_neg (show ¬ (16 : Int32) ≤ nI j from nI_ge (show j < 16 by omega) (by decide))]
    simp only [nA16, zin_nI (show j < 1108 by omega) (show 1108 < 2 ^ 31 by decide), nI_clamp (show j < 2 ^ 31 by omega), zin_nI (show j < 16 by omega) (show 16 < 2 ^ 31 by decide), nI_clamp (show j < 2 ^ 31 by omega), zin_nI (show 16 + j < 1108 by omega) (show 1108 < 2 ^ 31 by decide), nI_clamp (show 16 + j < 2 ^ 31 by omega), nI_1]
    rw [← ih m (j + 1) (by omega)]
    congr 1
    rw [zM_out (t := t) (P := fun p i => p = 25 ∧ (i < j ∨ (16 ≤ i ∧ i < 16 + j))) (f := (fun _ i => mFl t i)) (p := 6) (i := j) (by first | omega | (dsimp only; omega))]
    rw [zM_out (t := t) (P := fun p i => p = 25 ∧ (i < j ∨ (16 ≤ i ∧ i < 16 + j))) (f := (fun _ i => mFl t i)) (p := 7) (i := j) (by first | omega | (dsimp only; omega))]
    rw [zM_step (f := (fun _ i => mFl t i)) (p := 25) (i := j) (v := zg t 6 (j)) ((mFl_has t j (by omega)).symm)]
    rw [zM_step (f := (fun _ i => mFl t i)) (p := 25) (i := 16 + j) (v := zg t 7 (j)) ((mFl_met t j (by omega)).symm)]
    exact zM_congr (fun p i => by first | omega | (dsimp only; omega))

theorem sM_keep25_b (C : Nat → List zV → zS → zR) (t : zS) : ∀ (f m j : Nat), j + f = 256 → zexec skM C zT_M_keepSlots 0 (m + f) 25 [some (.inr (.inr 0)), some (.inr (.inr 25)), some (.inl (nI j))] [] (zM t (fun p i => p = 25 ∧ (i < 32 + j ∨ (288 ≤ i ∧ i < 288 + j))) (fun _ i => mFl t i)) = zexec skM C zT_M_keepSlots 0 m 25 [some (.inr (.inr 0)), some (.inr (.inr 25)), some (.inl (nI 256))] [] (zM t (fun p i => p = 25 ∧ (i < 32 + 256 ∨ (288 ≤ i ∧ i < 288 + 256))) (fun _ i => mFl t i)) := by
  intro f
  induction f with
  | zero =>
    intro m j hj
    obtain rfl : j = 256 := by omega
    rfl
  | succ f ih =>
    intro m j hj
    rw [show m + (f + 1) = (m + f) + 1 by omega, hM_M_keepSlots_25]
    unfold bM_M_keepSlots_25
    rw [if_neg (show ¬ (256 : Int32) ≤ nI j from nI_ge (show j < 256 by omega) (by decide))]
    simp only [n32a, nA288, zin_nI (show 32 + j < 1108 by omega) (show 1108 < 2 ^ 31 by decide), nI_clamp (show 32 + j < 2 ^ 31 by omega), zin_nI (show j < 256 by omega) (show 256 < 2 ^ 31 by decide), nI_clamp (show j < 2 ^ 31 by omega), zin_nI (show 288 + j < 1108 by omega) (show 1108 < 2 ^ 31 by decide), nI_clamp (show 288 + j < 2 ^ 31 by omega), nI_1]
    rw [← ih m (j + 1) (by omega)]
    congr 1
    rw [zM_out (t := t) (P := fun p i => p = 25 ∧ (i < 32 + j ∨ (288 ≤ i ∧ i < 288 + j))) (f := (fun _ i => mFl t i)) (p := 8) (i := j) (by first | omega | (dsimp only; omega))]
    rw [zM_out (t := t) (P := fun p i => p = 25 ∧ (i < 32 + j ∨ (288 ≤ i ∧ i < 288 + j))) (f := (fun _ i => mFl t i)) (p := 9) (i := j) (by first | omega | (dsimp only; omega))]
    rw [zM_step (f := (fun _ i => mFl t i)) (p := 25) (i := 32 + j) (v := zg t 8 (j)) ((mFl_fun t j (by omega)).symm)]
    rw [zM_step (f := (fun _ i => mFl t i)) (p := 25) (i := 288 + j) (v := zg t 9 (j)) ((mFl_num t j (by omega)).symm)]
    exact zM_congr (fun p i => by first | omega | (dsimp only; omega))

theorem sM_keep25 (d : Nat) (t : zS) : zcall zMs skM (d + 1) 209 [.inr (.inr 0), .inr (.inr 25)] t = some (none, zM t (fun p i => p = 25 ∧ i < 544) (fun _ i => mFl t i)) := by
  rw [aM_M_keepSlots]
  unfold bM_M_keepSlots_0
  have h1 := sM_keep25_a (zcall zMs skM d) t 16 19983 0 rfl
  have h2 := sM_keep25_b (zcall zMs skM d) t 256 19726 0 rfl
  rw [← zM_0 (t := t) (fun p i => by first | omega | (dsimp only; omega)), nI_0] at h1
  rw [show (19999 : Nat) = 19983 + 16 from rfl, h1, hM_M_keepSlots_2 _ 19982]
  unfold bM_M_keepSlots_2
  rw [if_pos (show (16 : Int32) ≤ nI 16 by decide)]
  rw [zM_congr (Q := fun p i => p = 25 ∧ (i < 32 + 0 ∨ (288 ≤ i ∧ i < 288 + 0))) (fun p i => by first | omega | (dsimp only; omega)), show (19982 : Nat) = 19726 + 256 from rfl, ← nI_0, h2, hM_M_keepSlots_25 _ 19725]
  unfold bM_M_keepSlots_25
  rw [if_pos (show (256 : Int32) ≤ nI 256 by decide)]
  exact congrArg (fun z => (some (none, z) : zR)) (zM_congr (fun p i => by first | omega | (dsimp only; omega)))

theorem sM_again25_a (C : Nat → List zV → zS → zR) (t : zS) : ∀ (f m j : Nat), j + f = 16 → zexec skM C zT_M_slotsAgain 0 (m + f) 2 [some (.inr (.inr 0)), some (.inr (.inr 25)), some (.inl (nI j))] [] (zM t (fun p i => (p = 6 ∨ p = 7) ∧ i < j) (fun p i => zg t 25 (rOff p + i))) = zexec skM C zT_M_slotsAgain 0 m 2 [some (.inr (.inr 0)), some (.inr (.inr 25)), some (.inl (nI 16))] [] (zM t (fun p i => (p = 6 ∨ p = 7) ∧ i < 16) (fun p i => zg t 25 (rOff p + i))) := by
  intro f
  induction f with
  | zero =>
    intro m j hj
    obtain rfl : j = 16 := by omega
    rfl
  | succ f ih =>
    intro m j hj
    rw [show m + (f + 1) = (m + f) + 1 by omega, hM_M_slotsAgain_2]
    unfold bM_M_slotsAgain_2
    rw [if_neg (show ¬ (16 : Int32) ≤ nI j from nI_ge (show j < 16 by omega) (by decide))]
    simp only [nA16, zin_nI (show j < 16 by omega) (show 16 < 2 ^ 31 by decide), nI_clamp (show j < 2 ^ 31 by omega), zin_nI (show j < 1108 by omega) (show 1108 < 2 ^ 31 by decide), nI_clamp (show j < 2 ^ 31 by omega), zin_nI (show 16 + j < 1108 by omega) (show 1108 < 2 ^ 31 by decide), nI_clamp (show 16 + j < 2 ^ 31 by omega), nI_1]
    rw [← ih m (j + 1) (by omega)]
    congr 1
    rw [zM_out (t := t) (P := fun p i => (p = 6 ∨ p = 7) ∧ i < j) (f := (fun p i => zg t 25 (rOff p + i))) (p := 25) (i := j) (by first | omega | (dsimp only; omega))]
    rw [zM_out (t := t) (P := fun p i => (p = 6 ∨ p = 7) ∧ i < j) (f := (fun p i => zg t 25 (rOff p + i))) (p := 25) (i := 16 + j) (by first | omega | (dsimp only; omega))]
    rw [zM_step (f := (fun p i => zg t 25 (rOff p + i))) (p := 6) (i := j) (v := zg t 25 (j)) (show _ = zg t 25 (0 + j) by rw [Nat.zero_add])]
    rw [zM_step (f := (fun p i => zg t 25 (rOff p + i))) (p := 7) (i := j) (v := zg t 25 (16 + j)) (rfl)]
    exact zM_congr (fun p i => by first | omega | (dsimp only; omega))

theorem sM_again25_b (C : Nat → List zV → zS → zR) (t : zS) : ∀ (f m j : Nat), j + f = 256 → zexec skM C zT_M_slotsAgain 0 (m + f) 25 [some (.inr (.inr 0)), some (.inr (.inr 25)), some (.inl (nI j))] [] (zM t (fun p i => ((p = 6 ∨ p = 7) ∧ i < 16) ∨ ((p = 8 ∨ p = 9) ∧ i < j)) (fun p i => zg t 25 (rOff p + i))) = zexec skM C zT_M_slotsAgain 0 m 25 [some (.inr (.inr 0)), some (.inr (.inr 25)), some (.inl (nI 256))] [] (zM t (fun p i => ((p = 6 ∨ p = 7) ∧ i < 16) ∨ ((p = 8 ∨ p = 9) ∧ i < 256)) (fun p i => zg t 25 (rOff p + i))) := by
  intro f
  induction f with
  | zero =>
    intro m j hj
    obtain rfl : j = 256 := by omega
    rfl
  | succ f ih =>
    intro m j hj
    rw [show m + (f + 1) = (m + f) + 1 by omega, hM_M_slotsAgain_25]
    unfold bM_M_slotsAgain_25
    rw [if_neg (show ¬ (256 : Int32) ≤ nI j from nI_ge (show j < 256 by omega) (by decide))]
    simp only [n32a, nA288, zin_nI (show j < 256 by omega) (show 256 < 2 ^ 31 by decide), nI_clamp (show j < 2 ^ 31 by omega), zin_nI (show 32 + j < 1108 by omega) (show 1108 < 2 ^ 31 by decide), nI_clamp (show 32 + j < 2 ^ 31 by omega), zin_nI (show 288 + j < 1108 by omega) (show 1108 < 2 ^ 31 by decide), nI_clamp (show 288 + j < 2 ^ 31 by omega), nI_1]
    rw [← ih m (j + 1) (by omega)]
    congr 1
    rw [zM_out (t := t) (P := fun p i => ((p = 6 ∨ p = 7) ∧ i < 16) ∨ ((p = 8 ∨ p = 9) ∧ i < j)) (f := (fun p i => zg t 25 (rOff p + i))) (p := 25) (i := 32 + j) (by first | omega | (dsimp only; omega))]
    rw [zM_out (t := t) (P := fun p i => ((p = 6 ∨ p = 7) ∧ i < 16) ∨ ((p = 8 ∨ p = 9) ∧ i < j)) (f := (fun p i => zg t 25 (rOff p + i))) (p := 25) (i := 288 + j) (by first | omega | (dsimp only; omega))]
    rw [zM_step (f := (fun p i => zg t 25 (rOff p + i))) (p := 8) (i := j) (v := zg t 25 (32 + j)) (rfl)]
    rw [zM_step (f := (fun p i => zg t 25 (rOff p + i))) (p := 9) (i := j) (v := zg t 25 (288 + j)) (rfl)]
    exact zM_congr (fun p i => by first | omega | (dsimp only; omega))

theorem sM_again25 (d : Nat) (t : zS) : zcall zMs skM (d + 1) 210 [.inr (.inr 0), .inr (.inr 25)] t = some (none, zM t (fun p i => ((p = 6 ∨ p = 7) ∧ i < 16) ∨ ((p = 8 ∨ p = 9) ∧ i < 256)) (fun p i => zg t 25 (rOff p + i))) := by
  rw [aM_M_slotsAgain]
  unfold bM_M_slotsAgain_0
  have h1 := sM_again25_a (zcall zMs skM d) t 16 19983 0 rfl
  have h2 := sM_again25_b (zcall zMs skM d) t 256 19726 0 rfl
  rw [← zM_0 (t := t) (fun p i => by first | omega | (dsimp only; omega)), nI_0] at h1
  rw [show (19999 : Nat) = 19983 + 16 from rfl, h1, hM_M_slotsAgain_2 _ 19982]
  unfold bM_M_slotsAgain_2
  rw [if_pos (show (16 : Int32) ≤ nI 16 by decide)]
  rw [zM_congr (Q := fun p i => ((p = 6 ∨ p = 7) ∧ i < 16) ∨ ((p = 8 ∨ p = 9) ∧ i < 0)) (fun p i => by first | omega | (dsimp only; omega)), show (19982 : Nat) = 19726 + 256 from rfl, ← nI_0, h2, hM_M_slotsAgain_25 _ 19725]
  unfold bM_M_slotsAgain_25
  rw [if_pos (show (256 : Int32) ≤ nI 256 by decide)]
