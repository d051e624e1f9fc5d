/-! MERGE: taking out; the turns of it, on both sides -/
theorem rTk_sub {o x : Nat} {l : List Nat} (h : x ∈ rTk o l) : x ∈ l := by
  cases l with
  | nil => exact h
  | cons y ys =>
    by_cases hy : y = o
    · rw [hy, rTk_hd] at h
      exact List.mem_cons_of_mem _ h
    · rw [rTk_nh hy] at h
      exact h
theorem rTk_nd {o : Nat} {l : List Nat} (h : l.Nodup) : (rTk o l).Nodup := by
  cases l with
  | nil => exact h
  | cons y ys =>
    by_cases hy : y = o
    · rw [hy, rTk_hd]
      exact (List.nodup_cons.mp h).2
    · rw [rTk_nh hy]
      exact h
theorem rTk_ne {o x : Nat} {l : List Nat} (h : x ∈ rTk o l) (ht : ¬ o ∈ l.tail) : x ≠ o := by
  cases l with
  | nil => exact absurd h List.not_mem_nil
  | cons y ys =>
    have ht' : ¬ o ∈ ys := ht
    by_cases hy : y = o
    · rw [hy, rTk_hd] at h
      exact fun c => ht' (c ▸ h)
    · rw [rTk_nh hy] at h
      rcases List.mem_cons.mp h with h | h
      · rw [h]; exact hy
      · exact fun c => ht' (c ▸ h)
theorem nd_len : ∀ (n : Nat) (l : List Nat), l.Nodup → (∀ x, x ∈ l → x < n) → l.length ≤ n := by
  intro n
  induction n with
  | zero =>
    intro l _ h
    cases l with
    | nil => exact Nat.le_refl _
    | cons x xs => exact absurd (h x List.mem_cons_self) (Nat.not_lt_zero x)
  | succ n ih =>
    intro l hl h
    have h1 : (l.erase n).length ≤ n := by
      refine ih _ (hl.erase n) (fun x hx => ?_)
      have hm := (List.Nodup.mem_erase_iff hl).mp hx
      have := h x hm.2
      have hne : x ≠ n := hm.1
      omega
    by_cases hn : n ∈ l
    · rw [List.length_erase_of_mem hn] at h1
      omega
    · rw [List.erase_of_not_mem hn] at h1
      omega
theorem rNx_is {R : Nat → List Nat} {N o : Nat} : ∀ (k i : Nat), i + k ≤ N → rNx R N k i = some o → (∃ j, j < N ∧ ∃ xs, R j = o :: xs) ∧ ¬ rBh R N o := by
  intro k
  induction k with
  | zero =>
    intro i _ h
    exact absurd h (by simp [rNx])
  | succ k ih =>
    intro i hi h
    cases hR : R i with
    | nil =>
      rw [rNx_e hR] at h
      exact ih (i + 1) (by omega) h
    | cons x xs =>
      by_cases hb : rBh R N x
      · rw [rNx_b hR hb] at h
        exact ih (i + 1) (by omega) h
      · rw [rNx_s hR hb] at h
        obtain rfl := Option.some.inj h
        exact ⟨⟨i, by omega, xs, hR⟩, hb⟩
/-- rows and what is merged go together -/
def rOk (N0 N : Nat) (R : Nat → List Nat) (acc : List Nat) : Prop := acc.Nodup ∧ (∀ x, x ∈ acc → x < N0) ∧ ∀ q, q < N → (R q).Nodup ∧ ∀ x, x ∈ R q → x < N0 ∧ ¬ x ∈ acc
theorem rOk_tk {N0 N o : Nat} {R : Nat → List Nat} {acc : List Nat} (h : rOk N0 N R acc) (h1 : ∃ j, j < N ∧ ∃ xs, R j = o :: xs) (h2 : ¬ rBh R N o) : rOk N0 N (fun i => rTk o (R i)) (acc ++ [o]) := by
  obtain ⟨a1, a2, a3⟩ := h
  obtain ⟨j, hj, xs, hR⟩ := h1
  obtain ⟨o1, o2⟩ := (a3 j hj).2 o (by rw [hR]; exact List.mem_cons_self)
  refine ⟨?_, ?_, fun q hq => ⟨rTk_nd (a3 q hq).1, fun x hx => ?_⟩⟩
  · refine List.nodup_append.mpr ⟨a1, by simp, fun x hx y hy => ?_⟩
    rw [List.mem_singleton] at hy
    intro c
    rw [c, hy] at hx
    exact o2 hx
  · intro x hx
    rcases List.mem_append.mp hx with hx | hx
    · exact a2 x hx
    · rw [List.mem_singleton] at hx
      rw [hx]; exact o1
  · have hs := rTk_sub hx
    obtain ⟨b1, b2⟩ := (a3 q hq).2 x hs
    refine ⟨b1, fun c => ?_⟩
    rcases List.mem_append.mp c with c | c
    · exact b2 c
    · rw [List.mem_singleton] at c
      exact rTk_ne hx (fun ht => h2 ⟨q, hq, ht⟩) c
theorem rOk_len {N0 N o : Nat} {R : Nat → List Nat} {acc : List Nat} (h : rOk N0 N R acc) (h1 : ∃ j, j < N ∧ ∃ xs, R j = o :: xs) (h2 : ¬ rBh R N o) : acc.length + 1 ≤ N0 := by
  obtain ⟨b1, b2, -⟩ := rOk_tk h h1 h2
  have := nd_len N0 _ b1 b2
  rw [List.length_append] at this
  exact this
theorem rOk_same {N0 n : Nat} {D R : Nat → List Nat} {acc : List Nat} (h : rSame n D R) (hk : rOk N0 (n + 1) R acc) : rOk N0 4 D acc := by
  obtain ⟨a1, a2, a3⟩ := hk
  obtain ⟨h0, h1, h2, h3⟩ := h
  refine ⟨a1, a2, fun q hq => ?_⟩
  by_cases hq3 : q = 3
  · rw [hq3, h3]; exact a3 n (by omega)
  · by_cases hqn : q < n
    · rw [h1 q hqn]; exact a3 q (by omega)
    · rw [h2 q (by omega) (by omega)]
      exact ⟨List.nodup_nil, fun x hx => absurd hx List.not_mem_nil⟩
theorem gX_c {s s' : zS} {D D' : Nat → List Nat} {a b : Nat → Nat} (hD : ∀ q, q < 4 → D' q = D q) (h40 : ∀ i, zg s' 40 i = zg s 40 i) (h41 : ∀ i, zg s' 41 i = zg s 41 i) (h39 : ∀ i, zg s' 39 i = zg s 39 i) (hg : gX s D a b) : gX s' D' a b := by
  intro q hq
  obtain ⟨g1, g2, g3, g4, g5, g6⟩ := hg q hq
  rw [hD q hq]
  exact ⟨g1, g2, (h40 q).trans g3, (h41 q).trans g4, fun j x hx => (h39 _).trans (g5 j x hx), g6⟩
theorem gM_c {s s' : zS} {N : Nat} {D D' : Nat → List Nat} {a b : Nat → Nat} (hD : ∀ q, q < N → D' q = D q) (h17 : ∀ i, zg s' 17 i = zg s 17 i) (h18 : ∀ i, zg s' 18 i = zg s 18 i) (h16 : ∀ i, zg s' 16 i = zg s 16 i) (hg : gM s N D a b) : gM s' N D' a b := by
  intro q hq
  obtain ⟨g1, g2, g3, g4, g5, g6⟩ := hg q hq
  rw [hD q hq]
  exact ⟨g1, g2, (h17 q).trans g3, (h18 q).trans g4, fun j x hx => (h16 _).trans (g5 j x hx), g6⟩
def rUp (D : Nat → List Nat) (q : Nat) (l : List Nat) : Nat → List Nat := fun i => if i = q then l else D i
def nUp (a : Nat → Nat) (q v : Nat) : Nat → Nat := fun i => if i = q then v else a i
theorem tk_end {D : Nat → List Nat} {o q : Nat} : (fun i => if q + 1 ≤ i then rTk o (rUp D q (rTk o (D q)) i) else rUp D q (rTk o (D q)) i) = (fun i => if q ≤ i then rTk o (D i) else D i) := by
  funext i
  unfold rUp
  by_cases hi : i = q
  · subst hi
    rw [if_neg (by omega), if_pos rfl, if_pos (Nat.le_refl _)]
  · rw [if_neg hi]
    by_cases h2 : q + 1 ≤ i
    · rw [if_pos h2, if_pos (by omega)]
    · rw [if_neg h2, if_neg (by omega)]
theorem rUp_id {D : Nat → List Nat} {q : Nat} {l : List Nat} (h : l = D q) : rUp D q l = D := by
  funext i
  unfold rUp
  by_cases hi : i = q
  · rw [if_pos hi, h, hi]
  · rw [if_neg hi]
def rSum (D : Nat → List Nat) : Nat → Nat
  | 0 => 0
  | k + 1 => rSum D k + (D k).length
theorem rSum_up {D : Nat → List Nat} {q : Nat} {l : List Nat} : ∀ N, q < N → rSum (rUp D q l) N + (D q).length = rSum D N + l.length := by
  have hne : ∀ N, N ≤ q → rSum (rUp D q l) N = rSum D N := by
    intro N
    induction N with
    | zero => intro _; rfl
    | succ N ih =>
      intro h
      show rSum (rUp D q l) N + (rUp D q l N).length = rSum D N + (D N).length
      rw [ih (by omega), show rUp D q l N = D N from if_neg (by omega)]
  intro N
  induction N with
  | zero => intro h; omega
  | succ N ih =>
    intro h
    show rSum (rUp D q l) N + (rUp D q l N).length + (D q).length = rSum D N + (D N).length + l.length
    by_cases hq : q = N
    · subst hq
      rw [hne q (Nat.le_refl _), show rUp D q l q = l from if_pos rfl]
      omega
    · have := ih (by omega)
      rw [show rUp D q l N = D N from if_neg (by omega)]
      omega
theorem rSum_0 {D : Nat → List Nat} : ∀ N, rSum D N = 0 ↔ ∀ i, i < N → D i = [] := by
  intro N
  induction N with
  | zero => exact ⟨fun _ i h => absurd h (Nat.not_lt_zero i), fun _ => rfl⟩
  | succ N ih =>
    constructor
    · intro h i hi
      have h' : rSum D N + (D N).length = 0 := h
      by_cases hN : i = N
      · rw [hN]; exact List.eq_nil_of_length_eq_zero (by omega)
      · exact (ih.mp (by omega)) i (by omega)
    · intro h
      show rSum D N + (D N).length = 0
      rw [ih.mpr (fun i hi => h i (by omega)), h N (by omega)]
      rfl
theorem rSum_c {D D' : Nat → List Nat} : ∀ N, (∀ i, i < N → D' i = D i) → rSum D' N = rSum D N := by
  intro N
  induction N with
  | zero => intro _; rfl
  | succ N ih =>
    intro h
    show rSum D' N + (D' N).length = rSum D N + (D N).length
    rw [ih (fun i hi => h i (by omega)), h N (by omega)]
theorem rSum_le {D : Nat → List Nat} {m : Nat} : ∀ N, (∀ i, i < N → (D i).length ≤ m) → rSum D N ≤ N * m := by
  intro N
  induction N with
  | zero => intro _; exact Nat.zero_le _
  | succ N ih =>
    intro h
    have h1 := ih (fun i hi => h i (by omega))
    have h2 := h N (by omega)
    show rSum D N + (D N).length ≤ (N + 1) * m
    rw [Nat.succ_mul]
    omega
/-! the class -/
theorem gX_up {s : zS} {D : Nat → List Nat} {a b : Nat → Nat} {q x : Nat} {xs : List Nat} (hD : D q = x :: xs) (hg : gX s D a b) : gX (zs s 40 q (nI (a q + 1))) (rUp D q xs) (nUp a q (a q + 1)) b := by
  intro i hi
  obtain ⟨g1, g2, g3, g4, g5, g6⟩ := hg i hi
  by_cases hq : i = q
  · subst hq
    rw [show rUp D i xs i = xs from if_pos rfl, show nUp a i (a i + 1) i = a i + 1 from if_pos rfl]
    rw [hD] at g1 g5 g6
    rw [List.length_cons] at g1
    refine ⟨by omega, g2, zgz_eq, (zgz_ne (by decide)).trans g4, fun j y hy => ?_, fun y hy => g6 y (List.mem_cons_of_mem _ hy)⟩
    rw [zgz_ne (by decide), show a i + 1 + j = a i + (j + 1) by omega]
    exact g5 (j + 1) y (by simpa using hy)
  · rw [show rUp D q xs i = D i from if_neg hq, show nUp a q (a q + 1) i = a i from if_neg hq]
    exact ⟨g1, g2, (zgz_nj hq).trans g3, (zgz_ne (by decide)).trans g4, fun j y hy => (zgz_ne (by decide)).trans (g5 j y hy), g6⟩
theorem tkX (C : Nat → List zV → zS → zR) (o : Nat) (ho : o < 16) : ∀ (k q K : Nat) (s : zS) (D : Nat → List Nat) (a b : Nat → Nat), q + k = 4 → k < K → gX s D a b → ∃ s' a', zexec skX C zT_G_takeOut 0 K 2 [some (.inr (.inr 36)), some (.inl (nI o)), some (.inl (nI q))] [] s = some (none, s') ∧ gX s' (fun i => if q ≤ i then rTk o (D i) else D i) a' b ∧ (∀ p i, p ≠ 40 → zg s' p i = zg s p i) ∧ (∀ p i, zgl s' p i = zgl s p i) := by
  intro k
  induction k with
  | zero =>
    intro q K s D a b hq hK hg
    obtain ⟨K, rfl⟩ : ∃ K', K = K' + 1 := ⟨K - 1, by omega⟩
    refine ⟨s, a, ?_, gX_c (fun i hi => by rw [if_neg (by omega)]) (fun _ => rfl) (fun _ => rfl) (fun _ => rfl) hg, fun _ _ _ => rfl, fun _ _ => rfl⟩
    rw [hX_G_takeOut_2]
    unfold bX_G_takeOut_2
    rw [if_pos (show (4 : Int32) ≤ nI q from nI_le (show 4 ≤ q by omega) (by omega))]
  | succ k ih =>
    intro q K s D a b hq hK hg
    obtain ⟨K, rfl⟩ : ∃ K', K = K' + 1 := ⟨K - 1, by omega⟩
    have hq4 : q < 4 := by omega
    obtain ⟨g1, g2, g3, g4, g5, g6⟩ := hg q hq4
    cases hD : D q with
    | nil =>
      have hl : (D q).length = 0 := by rw [hD]; rfl
      obtain ⟨s', a', e1, e2, e3, e4⟩ := ih (q + 1) K s D a b (by omega) (by omega) hg
      refine ⟨s', a', ?_, ?_, e3, e4⟩
      · rw [hX_G_takeOut_2]
        unfold bX_G_takeOut_2
        rw [if_neg (show ¬ (4 : Int32) ≤ nI q from nI_ge (show q < 4 by omega) (by decide)), zin_nI hq4 (by decide), zin_nI hq4 (by decide), nI_clamp (show q < 2 ^ 31 by omega), g3, g4, if_pos (nI_le (by omega) (by omega)), nI_1]
        exact e1
      · have hid : rUp D q (rTk o (D q)) = D := rUp_id (by rw [hD]; rfl)
        rw [← tk_end, hid]
        exact e2
    | cons x xs =>
      have hl : (D q).length = xs.length + 1 := by rw [hD]; rfl
      have hv := g5 0 x (by rw [hD]; rfl)
      rw [Nat.add_zero] at hv
      have hx := g6 x (by rw [hD]; exact List.mem_cons_self)
      by_cases hxo : x = o
      · have hg' := gX_up hD hg
        obtain ⟨s', a', e1, e2, e3, e4⟩ := ih (q + 1) K _ _ _ b (by omega) (by omega) hg'
        refine ⟨s', a', ?_, ?_, fun p i hp => (e3 p i hp).trans (zgz_ne hp), e4⟩
        · rw [hX_G_takeOut_2]
          unfold bX_G_takeOut_2
          rw [if_neg (show ¬ (4 : Int32) ≤ nI q from nI_ge (show q < 4 by omega) (by decide)), zin_nI hq4 (by decide), zin_nI hq4 (by decide), nI_clamp (show q < 2 ^ 31 by omega), g3, g4, if_neg (nI_ge (show a q < b q by omega) (by omega)), zin_nI hq4 (by decide), nlit16, zin_nI (show q * 16 + a q < 64 by omega) (by decide), nI_clamp (show q * 16 + a q < 2 ^ 31 by omega), hv, if_neg (show ¬ ¬ nI x = nI o from fun c => c (by rw [hxo])), zin_nI hq4 (by decide), zin_nI hq4 (by decide), nI_1, nI_1]
          exact e1
        · rw [← tk_end, show rTk o (D q) = xs by rw [hD, hxo, rTk_hd]]
          exact e2
      · obtain ⟨s', a', e1, e2, e3, e4⟩ := ih (q + 1) K s D a b (by omega) (by omega) hg
        refine ⟨s', a', ?_, ?_, e3, e4⟩
        · rw [hX_G_takeOut_2]
          unfold bX_G_takeOut_2
          rw [if_neg (show ¬ (4 : Int32) ≤ nI q from nI_ge (show q < 4 by omega) (by decide)), zin_nI hq4 (by decide), zin_nI hq4 (by decide), nI_clamp (show q < 2 ^ 31 by omega), g3, g4, if_neg (nI_ge (show a q < b q by omega) (by omega)), zin_nI hq4 (by decide), nlit16, zin_nI (show q * 16 + a q < 64 by omega) (by decide), nI_clamp (show q * 16 + a q < 2 ^ 31 by omega), hv, if_pos (show ¬ nI x = nI o from fun c => hxo ((nI_inj16 hx ho).mp c)), nI_1]
          exact e1
        · have hid : rUp D q (rTk o (D q)) = D := rUp_id (by rw [hD, rTk_nh hxo])
          rw [← tk_end, hid]
          exact e2
theorem allX (C : Nat → List zV → zS → zR) {D : Nat → List Nat} {a b : Nat → Nat} {s : zS} (hg : gX s D a b) : ∀ (k q K : Nat), q + k = 4 → k < K → zexec skX C zT_G_areAllEmpty 3 K 2 [some (.inr (.inr 36)), some (.inl (nI q))] [] s = some (some (.inl (zBp (∀ i, q ≤ i → i < 4 → D i = []))), s) := by
  intro k
  induction k with
  | zero =>
    intro q K hq hK
    obtain ⟨K, rfl⟩ : ∃ K', K = K' + 1 := ⟨K - 1, by omega⟩
    rw [hX_G_areAllEmpty_2]
    unfold bX_G_areAllEmpty_2
    rw [if_pos (show (4 : Int32) ≤ nI q from nI_le (show 4 ≤ q by omega) (by omega)), zbo_1, zBp_t (fun i h1 h2 => by omega)]
  | succ k ih =>
    intro q K hq hK
    obtain ⟨K, rfl⟩ : ∃ K', K = K' + 1 := ⟨K - 1, by omega⟩
    have hq4 : q < 4 := by omega
    obtain ⟨g1, g2, g3, g4, g5, g6⟩ := hg q hq4
    rw [hX_G_areAllEmpty_2]
    unfold bX_G_areAllEmpty_2
    rw [if_neg (show ¬ (4 : Int32) ≤ nI q from nI_ge (show q < 4 by omega) (by decide)), zin_nI hq4 (by decide), zin_nI hq4 (by decide), nI_clamp (show q < 2 ^ 31 by omega), g3, g4]
    by_cases hl : (D q).length = 0
    · rw [if_pos (nI_le (by omega) (by omega)), nI_1, ih (q + 1) K (by omega) (by omega)]
      rw [zB_iff (q := ∀ i, q ≤ i → i < 4 → D i = [])]
      constructor
      · intro h i h1 h2
        by_cases hi : i = q
        · rw [hi]; exact List.eq_nil_of_length_eq_zero hl
        · exact h i (by omega) h2
      · intro h i h1 h2
        exact h i (by omega) h2
    · rw [if_neg (nI_ge (by omega) (by omega)), zbo_0, zBp_f]
      intro h
      exact hl (by rw [h q (Nat.le_refl _) hq4]; rfl)
theorem rMg_all {n k : Nat} {R : Nat → List Nat} {acc : List Nat} (h : ∀ i, i < n + 1 → R i = []) : rMg n (k + 1) R acc = some acc := if_pos h
theorem rMg_no {n k : Nat} {R : Nat → List Nat} {acc : List Nat} (h : ¬ ∀ i, i < n + 1 → R i = []) (hn : rNx R (n + 1) (n + 1) 0 = none) : rMg n (k + 1) R acc = none := by
  refine Eq.trans (if_neg h) ?_
  rw [hn]
theorem rMg_go {n k o : Nat} {R : Nat → List Nat} {acc : List Nat} (h : ¬ ∀ i, i < n + 1 → R i = []) (hn : rNx R (n + 1) (n + 1) 0 = some o) : rMg n (k + 1) R acc = rMg n k (fun i => rTk o (R i)) (acc ++ [o]) := by
  refine Eq.trans (if_neg h) ?_
  rw [hn]
/-- what is merged stands in a row of the state -/
def mIn (f : Nat → Int32) (acc : List Nat) : Prop := ∀ (j x : Nat), acc[j]? = some x → f j = nI x
theorem mIn_put {f g : Nat → Int32} {acc : List Nat} {o : Nat} (h : mIn f acc) (hg : ∀ i, g i = if i = acc.length then nI o else f i) : mIn g (acc ++ [o]) := by
  intro j x hx
  rw [hg]
  by_cases hj : j = acc.length
  · subst hj
    rw [if_pos rfl]
    rw [List.getElem?_append_right (Nat.le_refl _), Nat.sub_self] at hx
    simp at hx
    rw [hx]
  · rw [if_neg hj]
    by_cases hl : j < acc.length
    · rw [List.getElem?_append_left hl] at hx
      exact h j x hx
    · rw [List.getElem?_append_right (by omega)] at hx
      have : ∃ m, j - acc.length = m + 1 := ⟨j - acc.length - 1, by omega⟩
      obtain ⟨m, hm⟩ := this
      rw [hm] at hx
      simp at hx
theorem rNx_16 {N0 : Nat} {N : Nat} {R : Nat → List Nat} {acc : List Nat} {o : Nat} (hk : rOk N0 N R acc) (h16 : N0 ≤ 16) (h : rNx R N N 0 = some o) : o < 16 ∧ acc.length + 1 ≤ 16 := by
  obtain ⟨h1, h2⟩ := rNx_is N 0 (by omega) h
  have hl := rOk_len hk h1 h2
  obtain ⟨j, hj, xs, hR⟩ := h1
  have := (hk.2.2 j hj).2 o (by rw [hR]; exact List.mem_cons_self)
  omega
theorem mgX {N0 n : Nat} (d : Nat) (h16 : N0 ≤ 16) : ∀ (k : Nat) (K : Nat) (s : zS) (D R : Nat → List Nat) (acc : List Nat) (a b : Nat → Nat), acc.length + k = 17 → k < K → rSame n D R → rOk N0 (n + 1) R acc → gX s D a b → zg s 36 3 = nI acc.length → mIn (zg s 38) acc → ∃ s', zexec skX (zcall zMs skX (d + 3)) zT_G_findOrder 3 K 8 [some (.inr (.inr 36)), none, some (.inl (nI acc.length)), none] [] s = some (some (.inl (zBp (¬ rMg n k R acc = none))), s') ∧ (∀ r, rMg n k R acc = some r → zg s' 36 3 = nI r.length ∧ mIn (zg s' 38) r ∧ r.Nodup ∧ (∀ x, x ∈ r → x < N0)) ∧ (∀ p i, p ≠ 36 → p ≠ 38 → p ≠ 40 → zg s' p i = zg s p i) ∧ (∀ i, i ≠ 3 → zg s' 36 i = zg s 36 i) ∧ (∀ p i, zgl s' p i = zgl s p i) := by
  intro k
  induction k with
  | zero =>
    intro K s D R acc a b hk hK hS hO
    have := nd_len N0 acc hO.1 hO.2.1
    omega
  | succ k ih =>
    intro K s D R acc a b hk hK hS hO hg h3 hm
    obtain ⟨K, rfl⟩ : ∃ K', K = K' + 1 := ⟨K - 1, by omega⟩
    have hal := allX (zcall zMs skX (d + 2)) hg 4 0 19999 rfl (by omega)
    rw [nI_0] at hal
    have hall : zcall zMs skX (d + 3) 12 [.inr (.inr 36)] s = some (some (.inl (zBp (∀ i, i < n + 1 → R i = []))), s) := by
      rw [aX_G_areAllEmpty]
      unfold bX_G_areAllEmpty_0
      rw [hal, zB_iff (q := ∀ i, i < n + 1 → R i = [])]
      constructor
      · intro h
        exact (rSame_all hS).mp (fun i hi => h i (Nat.zero_le _) hi)
      · intro h i _ hi
        exact (rSame_all hS).mpr h i hi
    rw [hX_G_findOrder_8]
    unfold bX_G_findOrder_8
    rw [if_neg (show ¬ (16 : Int32) < nI acc.length from nI_nlt (show acc.length ≤ 16 by omega) (by decide)), hall, zcI_some]
    by_cases hA : ∀ i, i < n + 1 → R i = []
    · rw [zBp_t hA, if_neg o1, zbo_1, rMg_all hA, zBp_t (by simp)]
      refine ⟨s, rfl, fun r hr => ?_, fun _ _ _ _ _ => rfl, fun _ _ => rfl, fun _ _ => rfl⟩
      obtain rfl := Option.some.inj hr
      exact ⟨h3, hm, hO.1, hO.2.1⟩
    · rw [zBp_f hA, if_pos (show (0 : Int32) = 0 from rfl), nxX (d + 1) hg, zcI_some, rSame_nx hS]
      cases hn : rNx R (n + 1) (n + 1) 0 with
      | none =>
        rw [show oIX none = (-1 : Int32) from rfl, if_pos (show (-1 : Int32) = -1 from rfl), zbo_0, rMg_no hA hn, zBp_f (by simp)]
        exact ⟨s, rfl, fun r hr => (by cases hr), fun _ _ _ _ _ => rfl, fun _ _ => rfl, fun _ _ => rfl⟩
      | some o =>
        obtain ⟨n1, n2⟩ := rNx_is (n + 1) 0 (by omega) hn
        obtain ⟨ho16, hl16⟩ := rNx_16 hO h16 hn
        have hO' := rOk_tk hO n1 n2
        have hg1 : gX (zs (zs s 38 acc.length (nI o)) 36 3 (nI (acc.length + 1))) D a b := gX_c (fun _ _ => rfl) (fun i => by rw [zgz_ne (by decide), zgz_ne (by decide)]) (fun i => by rw [zgz_ne (by decide), zgz_ne (by decide)]) (fun i => by rw [zgz_ne (by decide), zgz_ne (by decide)]) hg
        obtain ⟨s2, a2, e1, e2, e3, e4⟩ := tkX (zcall zMs skX (d + 2)) o ho16 4 0 19999 _ D a b rfl (by omega) hg1
        rw [nI_0] at e1
        have hg2 : gX s2 (fun i => rTk o (D i)) a2 b := gX_c (fun q _ => by rw [if_pos (Nat.zero_le q)]) (fun _ => rfl) (fun _ => rfl) (fun _ => rfl) e2
        have hm2 : mIn (zg s2 38) (acc ++ [o]) := by
          refine mIn_put hm (fun i => ?_)
          rw [e3 38 i (by decide), zgz_ne (by decide), zg_zs, if_pos rfl]
        have hlen : (acc ++ [o]).length = acc.length + 1 := by simp
        obtain ⟨s3, f1, f2, f3, f4, f5⟩ := ih K s2 _ _ (acc ++ [o]) a2 b (by omega) (by omega) (rSame_tk hS) hO' hg2 (by rw [e3 36 3 (by decide), zgz_eq, hlen]) hm2
        rw [hlen] at f1
        refine ⟨s3, ?_, ?_, fun p i p36 p38 p40 => ?_, fun i hi => ?_, fun p i => (f5 p i).trans (e4 p i)⟩
        · rw [show oIX (some o) = nI o from rfl, if_neg (nI_neg1 (show o < 2 ^ 31 by omega)), h3, if_pos (show nI acc.length < (16 : Int32) from nI_lt (show acc.length < 16 by omega) (by decide)), zin_nI (show acc.length < 16 by omega) (by decide), nI_clamp (show acc.length < 2 ^ 31 by omega), nI_1]
          dsimp only
          rw [aX_G_takeOut]
          unfold bX_G_takeOut_0
          rw [e1, zcV_some, f1, rMg_go hA hn]
        · rw [rMg_go hA hn]
          exact f2
        · rw [f3 p i p36 p38 p40, e3 p i p40, zgz_ne p36, zgz_ne p38]
        · rw [f4 i hi, e3 36 i (by decide), zgz_nj hi, zgz_ne (by decide)]
/-! the reference -/
theorem gM_up {s : zS} {N : Nat} {D : Nat → List Nat} {a b : Nat → Nat} {q x : Nat} {xs : List Nat} (hD : D q = x :: xs) (hg : gM s N D a b) : gM (zs s 17 q (nI (a q + 1))) N (rUp D q xs) (nUp a q (a q + 1)) b := by
  intro i hi
  obtain ⟨g1, g2, g3, g4, g5, g6⟩ := hg i hi
  by_cases hq : i = q
  · subst hq
    rw [show rUp D i xs i = xs from if_pos rfl, show nUp a i (a i + 1) i = a i + 1 from if_pos rfl]
    rw [hD] at g1 g5 g6
    rw [List.length_cons] at g1
    refine ⟨by omega, g2, zgz_eq, (zgz_ne (by decide)).trans g4, fun j y hy => ?_, fun y hy => g6 y (List.mem_cons_of_mem _ hy)⟩
    rw [zgz_ne (by decide), show a i + 1 + j = a i + (j + 1) by omega]
    exact g5 (j + 1) y (by simpa using hy)
  · rw [show rUp D q xs i = D i from if_neg hq, show nUp a q (a q + 1) i = a i from if_neg hq]
    exact ⟨g1, g2, (zgz_nj hq).trans g3, (zgz_ne (by decide)).trans g4, fun j y hy => (zgz_ne (by decide)).trans (g5 j y hy), g6⟩
theorem tkM (C : Nat → List zV → zS → zR) (o n : Nat) (ho : o < 16) (hn : n ≤ 3) : ∀ (k q K L : Nat) (s : zS) (D : Nat → List Nat) (a b : Nat → Nat), q + k = n + 1 → gM s (n + 1) D a b → L = rSum D (n + 1) → ∃ s' a', zexec skM C zT_M_merges 3 (K + k + 1) 76 [some (.inr (.inr 0)), none, none, some (.inl (nI n)), some (.inl (nI L)), some (.inl (nI o)), some (.inl (nI q))] [] s = zexec skM C zT_M_merges 3 K 49 [some (.inr (.inr 0)), none, none, some (.inl (nI n)), some (.inl (nI (rSum (fun i => if q ≤ i then rTk o (D i) else D i) (n + 1)))), none, none] [] s' ∧ gM s' (n + 1) (fun i => if q ≤ i then rTk o (D i) else D i) a' b ∧ (∀ p i, p ≠ 17 → zg s' p i = zg s p i) ∧ (∀ p i, zgl s' p i = zgl s p i) := by
  intro k
  induction k with
  | zero =>
    intro q K L s D a b hq hg hL
    refine ⟨s, a, ?_, gM_c (fun i hi => by rw [if_neg (by omega)]) (fun _ => rfl) (fun _ => rfl) (fun _ => rfl) hg, fun _ _ _ => rfl, fun _ _ => rfl⟩
    rw [show K + 0 + 1 = K + 1 by omega, hM_M_merges_76]
    unfold bM_M_merges_76
    rw [if_pos (nI_lt (show n < q by omega) (by omega)), hL, rSum_c (D := D) (D' := fun i => if q ≤ i then rTk o (D i) else D i) (n + 1) (fun i hi => if_neg (by omega))]
  | succ k ih =>
    intro q K L s D a b hq hg hL
    have hqn : q < n + 1 := by omega
    obtain ⟨g1, g2, g3, g4, g5, g6⟩ := hg q hqn
    have hnlt : ¬ nI n < nI q := nI_nlt (show q ≤ n by omega) (by omega)
    rw [show K + (k + 1) + 1 = (K + k + 1) + 1 by omega]
    cases hD : D q with
    | nil =>
      have hl : (D q).length = 0 := by rw [hD]; rfl
      obtain ⟨s', a', e1, e2, e3, e4⟩ := ih (q + 1) K L s D a b (by omega) hg hL
      have hid : rUp D q (rTk o (D q)) = D := rUp_id (by rw [hD]; rfl)
      have te := tk_end (D := D) (o := o) (q := q)
      rw [hid] at te
      rw [te] at e1 e2
      refine ⟨s', a', ?_, e2, e3, e4⟩
      rw [hM_M_merges_76]
      unfold bM_M_merges_76
      rw [if_neg hnlt, zin_nI (show q < 4 by omega) (by decide), zin_nI (show q < 4 by omega) (by decide), nI_clamp (show q < 2 ^ 31 by omega), g3, g4, if_pos (show nI (a q) = nI (b q) by rw [show a q = b q by omega]), nI_1]
      exact e1
    | cons x xs =>
      have hl : (D q).length = xs.length + 1 := by rw [hD]; rfl
      have hv := g5 0 x (by rw [hD]; rfl)
      rw [Nat.add_zero] at hv
      have hx := g6 x (by rw [hD]; exact List.mem_cons_self)
      have hne : ¬ nI (a q) = nI (b q) := fun c => by have := (nI_i3 (by omega) (b q) (by omega)).mp c; omega
      by_cases hxo : x = o
      · have hg' := gM_up hD hg
        have hsum := rSum_up (D := D) (l := xs) (n + 1) hqn
        have hL1 : L = rSum (rUp D q xs) (n + 1) + 1 := by omega
        obtain ⟨s', a', e1, e2, e3, e4⟩ := ih (q + 1) K (rSum (rUp D q xs) (n + 1)) _ _ _ b (by omega) hg' rfl
        have te := tk_end (D := D) (o := o) (q := q)
        rw [show rTk o (D q) = xs by rw [hD, hxo, rTk_hd]] at te
        rw [te] at e1 e2
        refine ⟨s', a', ?_, e2, fun p i hp => (e3 p i hp).trans (zgz_ne hp), e4⟩
        rw [hM_M_merges_76]
        unfold bM_M_merges_76
        rw [if_neg hnlt, zin_nI (show q < 4 by omega) (by decide), zin_nI (show q < 4 by omega) (by decide), nI_clamp (show q < 2 ^ 31 by omega), g3, g4, if_neg hne, zin_nI (show q < 4 by omega) (by decide), nlit17, zin_nI (show 17 * q + a q < 68 by omega) (by decide), nI_clamp (show 17 * q + a q < 2 ^ 31 by omega), hv, if_pos (show nI x = nI o by rw [hxo]), zin_nI (show q < 4 by omega) (by decide), zin_nI (show q < 4 by omega) (by decide), nI_1, nI_1, hL1, pk_m1]
        exact e1
      · obtain ⟨s', a', e1, e2, e3, e4⟩ := ih (q + 1) K L s D a b (by omega) hg hL
        have hid : rUp D q (rTk o (D q)) = D := rUp_id (by rw [hD, rTk_nh hxo])
        have te := tk_end (D := D) (o := o) (q := q)
        rw [hid] at te
        rw [te] at e1 e2
        refine ⟨s', a', ?_, e2, e3, e4⟩
        rw [hM_M_merges_76]
        unfold bM_M_merges_76
        rw [if_neg hnlt, zin_nI (show q < 4 by omega) (by decide), zin_nI (show q < 4 by omega) (by decide), nI_clamp (show q < 2 ^ 31 by omega), g3, g4, if_neg hne, zin_nI (show q < 4 by omega) (by decide), nlit17, zin_nI (show 17 * q + a q < 68 by omega) (by decide), nI_clamp (show 17 * q + a q < 2 ^ 31 by omega), hv, if_neg (show ¬ nI x = nI o from fun c => hxo ((nI_inj16 hx ho).mp c)), nI_1]
        exact e1
theorem mgM {N0 n : Nat} (d : Nat) (h16 : N0 ≤ 16) (hn3 : n ≤ 3) : ∀ (k : Nat) (K : Nat) (s : zS) (R : Nat → List Nat) (acc : List Nat) (a b : Nat → Nat), acc.length + k = 17 → k * 10 < K → rOk N0 (n + 1) R acc → gM s (n + 1) R a b → zg s 0 27 = nI acc.length → mIn (zg s 19) acc → ∃ s', zexec skM (zcall zMs skM (d + 3)) zT_M_merges 3 K 49 [some (.inr (.inr 0)), none, none, some (.inl (nI n)), some (.inl (nI (rSum R (n + 1)))), none, none] [] s = some (some (.inl (zBp (¬ rMg n k R acc = none))), s') ∧ (∀ r, rMg n k R acc = some r → zg s' 0 27 = nI r.length ∧ mIn (zg s' 19) r) ∧ (∀ p i, p ≠ 0 → p ≠ 17 → p ≠ 19 → zg s' p i = zg s p i) ∧ (∀ i, i ≠ 27 → zg s' 0 i = zg s 0 i) ∧ (∀ p i, zgl s' p i = zgl s p i) := by
  intro k
  induction k with
  | zero =>
    intro K s R acc a b hk hK hO
    have := nd_len N0 acc hO.1 hO.2.1
    omega
  | succ k ih =>
    intro K s R acc a b hk hK hO hg h27 hm
    obtain ⟨K, rfl⟩ : ∃ K', K = (K' + (n + 1) + 1) + 1 := ⟨K - n - 3, by omega⟩
    have hs64 : rSum R (n + 1) ≤ (n + 1) * 16 := rSum_le (n + 1) (fun i hi => by
      obtain ⟨g1, g2, -⟩ := hg i hi
      omega)
    have hs64' : rSum R (n + 1) ≤ 64 := by
      have : (n + 1) * 16 ≤ 64 := by omega
      omega
    rw [hM_M_merges_49]
    unfold bM_M_merges_49
    by_cases hA : ∀ i, i < n + 1 → R i = []
    · have hz : rSum R (n + 1) = 0 := (rSum_0 (n + 1)).mpr hA
      rw [hz, if_pos (show nI 0 ≤ 0 by decide), zbo_1, rMg_all hA, zBp_t (by simp)]
      refine ⟨s, rfl, fun r hr => ?_, fun _ _ _ _ _ => rfl, fun _ _ => rfl, fun _ _ => rfl⟩
      obtain rfl := Option.some.inj hr
      exact ⟨h27, hm⟩
    · have hz : 0 < rSum R (n + 1) := Nat.pos_of_ne_zero (fun c => hA ((rSum_0 (n + 1)).mp c))
      rw [if_neg (nI_nle hz (by omega)), nI_1, nxM (d + 1) (show n + 1 ≤ 4 by omega) hg, zcI_some]
      cases hn : rNx R (n + 1) (n + 1) 0 with
      | none =>
        rw [show oIM none = (-1 : Int32) from rfl, if_neg (show ¬ ¬ (-1 : Int32) = -1 by decide), zbo_0, rMg_no hA hn, zBp_f (by simp)]
        exact ⟨s, rfl, fun r hr => (by cases hr), fun _ _ _ _ _ => rfl, fun _ _ => rfl, fun _ _ => rfl⟩
      | some o =>
        obtain ⟨n1, n2⟩ := rNx_is (n + 1) 0 (by omega) hn
        obtain ⟨ho16, hl16⟩ := rNx_16 hO h16 hn
        have hO' := rOk_tk hO n1 n2
        have hg1 : gM (zs (zs s 19 acc.length (nI o)) 0 27 (nI (acc.length + 1))) (n + 1) R a b := gM_c (fun _ _ => rfl) (fun i => by rw [zgz_ne (by decide), zgz_ne (by decide)]) (fun i => by rw [zgz_ne (by decide), zgz_ne (by decide)]) (fun i => by rw [zgz_ne (by decide), zgz_ne (by decide)]) hg
        obtain ⟨s2, a2, e1, e2, e3, e4⟩ := tkM (zcall zMs skM (d + 3)) o n ho16 hn3 (n + 1) 0 K (rSum R (n + 1)) _ R a b (by omega) hg1 rfl
        have hfun : (fun i => if 0 ≤ i then rTk o (R i) else R i) = (fun i => rTk o (R i)) := funext fun i => if_pos (Nat.zero_le i)
        rw [hfun] at e1 e2
        rw [nI_0] at e1
        have hm2 : mIn (zg s2 19) (acc ++ [o]) := by
          refine mIn_put hm (fun i => ?_)
          rw [e3 19 i (by decide), zgz_ne (by decide), zg_zs, if_pos rfl]
        have hlen : (acc ++ [o]).length = acc.length + 1 := by simp
        obtain ⟨s3, f1, f2, f3, f4, f5⟩ := ih K s2 _ (acc ++ [o]) a2 b (by omega) (by omega) hO' e2 (by rw [e3 0 27 (by decide), zgz_eq, hlen]) hm2
        refine ⟨s3, ?_, ?_, fun p i p0 p17 p19 => ?_, fun i hi => ?_, fun p i => (f5 p i).trans (e4 p i)⟩
        · rw [show oIM (some o) = nI o from rfl, if_pos (nI_neg1 (show o < 2 ^ 31 by omega)), h27, zin_nI (show acc.length < 17 by omega) (by decide), nI_clamp (show acc.length < 2 ^ 31 by omega), nI_1]
          dsimp only
          rw [e1, f1, rMg_go hA hn]
        · rw [rMg_go hA hn]
          exact f2
        · rw [f3 p i p0 p17 p19, e3 p i p17, zgz_ne p0, zgz_ne p19]
        · rw [f4 i hi, e3 0 i (by decide), zgz_nj hi, zgz_ne (by decide)]
