/-! MERGE: rows, pure -/
def rBh (R : Nat → List Nat) (N p : Nat) : Prop := ∃ i, i < N ∧ p ∈ (R i).tail
noncomputable def rNx (R : Nat → List Nat) (N : Nat) : Nat → Nat → Option Nat
  | 0, _ => none
  | k + 1, i => match R i with
    | [] => rNx R N k (i + 1)
    | x :: _ => @ite _ (rBh R N x) (Classical.propDecidable _) (rNx R N k (i + 1)) (some x)
def rTk (o : Nat) : List Nat → List Nat
  | [] => []
  | x :: xs => if x = o then xs else x :: xs
noncomputable def rMg (n : Nat) : Nat → (Nat → List Nat) → List Nat → Option (List Nat)
  | 0, _, _ => none
  | k + 1, R, acc => @ite _ (∀ i, i < n + 1 → R i = []) (Classical.propDecidable _) (some acc) (match rNx R (n + 1) (n + 1) 0 with
    | none => none
    | some o => rMg n k (fun i => rTk o (R i)) (acc ++ [o]))
theorem rNx_e {R : Nat → List Nat} {N k i : Nat} (h : R i = []) : rNx R N (k + 1) i = rNx R N k (i + 1) := by
  show (match R i with | [] => _ | x :: _ => _) = _
  rw [h]
theorem rNx_b {R : Nat → List Nat} {N k i x : Nat} {xs : List Nat} (h : R i = x :: xs) (hb : rBh R N x) : rNx R N (k + 1) i = rNx R N k (i + 1) := by
  show (match R i with | [] => _ | x :: _ => _) = _
  rw [h]
  exact if_pos hb
theorem rNx_s {R : Nat → List Nat} {N k i x : Nat} {xs : List Nat} (h : R i = x :: xs) (hb : ¬ rBh R N x) : rNx R N (k + 1) i = some x := by
  show (match R i with | [] => _ | x :: _ => _) = _
  rw [h]
  exact if_neg hb
theorem rTk_hd {o : Nat} {xs : List Nat} : rTk o (o :: xs) = xs := if_pos rfl
theorem rTk_nh {o x : Nat} {xs : List Nat} (h : x ≠ o) : rTk o (x :: xs) = x :: xs := if_neg h
/-- the class's four rows beside the reference's n + 1 -/
def rSame (n : Nat) (D R : Nat → List Nat) : Prop := n ≤ 3 ∧ (∀ q, q < n → D q = R q) ∧ (∀ q, n ≤ q → q < 3 → D q = []) ∧ D 3 = R n
theorem rSame_tk {n o : Nat} {D R : Nat → List Nat} (h : rSame n D R) : rSame n (fun i => rTk o (D i)) (fun i => rTk o (R i)) := by
  obtain ⟨h0, h1, h2, h3⟩ := h
  exact ⟨h0, fun q hq => congrArg (rTk o) (h1 q hq), fun q a b => congrArg (rTk o) (h2 q a b), congrArg (rTk o) h3⟩
theorem rSame_all {n : Nat} {D R : Nat → List Nat} (h : rSame n D R) : (∀ i, i < 4 → D i = []) ↔ (∀ i, i < n + 1 → R i = []) := by
  obtain ⟨h0, h1, h2, h3⟩ := h
  constructor
  · intro g i hi
    by_cases hn : i = n
    · rw [hn, ← h3]; exact g 3 (by decide)
    · rw [← h1 i (by omega)]; exact g i (by omega)
  · intro g i hi
    by_cases hi3 : i = 3
    · rw [hi3, h3]; exact g n (by omega)
    · by_cases hin : i < n
      · rw [h1 i hin]; exact g i (by omega)
      · exact h2 i (by omega) (by omega)
theorem rSame_bh {n p : Nat} {D R : Nat → List Nat} (h : rSame n D R) : rBh D 4 p ↔ rBh R (n + 1) p := by
  obtain ⟨h0, h1, h2, h3⟩ := h
  constructor
  · rintro ⟨i, hi, hp⟩
    by_cases hi3 : i = 3
    · rw [hi3, h3] at hp; exact ⟨n, by omega, hp⟩
    · by_cases hin : i < n
      · rw [h1 i hin] at hp; exact ⟨i, by omega, hp⟩
      · rw [h2 i (by omega) (by omega)] at hp
        exact absurd hp List.not_mem_nil
  · rintro ⟨i, hi, hp⟩
    by_cases hn : i = n
    · rw [hn, ← h3] at hp; exact ⟨3, by decide, hp⟩
    · rw [← h1 i (by omega)] at hp; exact ⟨i, by omega, hp⟩
theorem rNx_step {R D : Nat → List Nat} {N M k l i j : Nat} (h : R i = D j) (hb : ∀ p, rBh R N p ↔ rBh D M p) (hn : rNx R N k (i + 1) = rNx D M l (j + 1)) : rNx R N (k + 1) i = rNx D M (l + 1) j := by
  cases hD : D j with
  | nil => rw [rNx_e (h.trans hD), rNx_e hD, hn]
  | cons x xs =>
    by_cases hx : rBh D M x
    · rw [rNx_b (h.trans hD) ((hb x).mpr hx), rNx_b hD hx, hn]
    · rw [rNx_s (h.trans hD) (fun c => hx ((hb x).mp c)), rNx_s hD hx]
theorem rSame_nx {n : Nat} {D R : Nat → List Nat} (h : rSame n D R) : rNx D 4 4 0 = rNx R (n + 1) (n + 1) 0 := by
  have hb : ∀ p, rBh D 4 p ↔ rBh R (n + 1) p := fun p => rSame_bh h
  obtain ⟨h0, h1, h2, h3⟩ := h
  have hn : n = 0 ∨ n = 1 ∨ n = 2 ∨ n = 3 := by omega
  rcases hn with rfl | rfl | rfl | rfl
  · rw [rNx_e (h2 0 (by decide) (by decide)), rNx_e (h2 1 (by decide) (by decide)), rNx_e (h2 2 (by decide) (by decide))]
    exact rNx_step h3 hb rfl
  · refine rNx_step (h1 0 (by decide)) hb ?_
    rw [rNx_e (h2 1 (by decide) (by decide)), rNx_e (h2 2 (by decide) (by decide))]
    exact rNx_step h3 hb rfl
  · refine rNx_step (h1 0 (by decide)) hb (rNx_step (h1 1 (by decide)) hb ?_)
    rw [rNx_e (h2 2 (by decide) (by decide))]
    exact rNx_step h3 hb rfl
  · exact rNx_step (h1 0 (by decide)) hb (rNx_step (h1 1 (by decide)) hb (rNx_step (h1 2 (by decide)) hb (rNx_step h3 hb rfl)))
theorem nlit17 (o i : Nat) : (17 : Int32) * nI o + nI i = nI (17 * o + i) := by
  rw [show (17 : Int32) = nI 17 from rfl, pk_mul, nI_add]
/-! the rows in the two states -/
def gX (s : zS) (D : Nat → List Nat) (a b : Nat → Nat) : Prop := ∀ q, q < 4 → a q + (D q).length = b q ∧ b q ≤ 16 ∧ zg s 40 q = nI (a q) ∧ zg s 41 q = nI (b q) ∧ (∀ j x, (D q)[j]? = some x → zg s 39 (q * 16 + (a q + j)) = nI x) ∧ ∀ x, x ∈ D q → x < 16
def gM (s : zS) (N : Nat) (D : Nat → List Nat) (a b : Nat → Nat) : Prop := ∀ q, q < N → a q + (D q).length = b q ∧ b q ≤ 16 ∧ zg s 17 q = nI (a q) ∧ zg s 18 q = nI (b q) ∧ (∀ j x, (D q)[j]? = some x → zg s 16 (17 * q + (a q + j)) = nI x) ∧ ∀ x, x ∈ D q → x < 16
theorem drop_mem {l : List Nat} {k x p : Nat} (h : l[k]? = some x) : (p ∈ l.drop k) ↔ (p = x ∨ p ∈ l.drop (k + 1)) := by
  obtain ⟨hk, hx⟩ := List.getElem?_eq_some_iff.mp h
  rw [List.drop_eq_getElem_cons hk, List.mem_cons, hx]
theorem tail_drop (l : List Nat) : l.tail = l.drop 1 := by
  cases l <;> rfl

theorem bhX_in {D : Nat → List Nat} {a b : Nat → Nat} {s : zS} {p q : Nat} (C : Nat → List zV → zS → zR) (hq : q < 4) (hp : p < 16) (hg : gX s D a b) : ∀ (f i K : Nat), i + f = max (a q + 1) (b q) → a q + 1 ≤ i → (p ∈ (D q).drop (i - a q) → zexec skX C zT_G_standsBehindAFirst 3 (K + f + 1) 12 [some (.inr (.inr 36)), some (.inl (nI p)), some (.inl (nI q)), some (.inl (nI i))] [] s = some (some (.inl 1), s)) ∧ (¬ p ∈ (D q).drop (i - a q) → zexec skX C zT_G_standsBehindAFirst 3 (K + f + 1) 12 [some (.inr (.inr 36)), some (.inl (nI p)), some (.inl (nI q)), some (.inl (nI i))] [] s = zexec skX C zT_G_standsBehindAFirst 3 K 2 [some (.inr (.inr 36)), some (.inl (nI p)), some (.inl (nI (q + 1))), none] [] s) := by
  obtain ⟨g1, g2, g3, g4, g5, g6⟩ := hg q (by omega)
  intro f
  induction f with
  | zero =>
    intro i K hi hi2
    have hd : (D q).drop (i - a q) = [] := List.drop_eq_nil_of_le (by omega)
    rw [hd]
    refine ⟨fun h => absurd h List.not_mem_nil, fun _ => ?_⟩
    rw [show K + 0 + 1 = K + 1 by omega, hX_G_standsBehindAFirst_12]
    unfold bX_G_standsBehindAFirst_12
    rw [zin_nI (show q < 4 by omega) (by decide), nI_clamp (show q < 2 ^ 31 by omega), g4, if_pos (nI_le (show b q ≤ i by omega) (by omega)), nI_1]
  | succ f ih =>
    intro i K hi hi2
    have hlt : i < b q := by omega
    have hget : (D q)[i - a q]? = some (D q)[i - a q] := List.getElem?_eq_getElem (by omega)
    have hv := g5 _ _ hget
    have hx16 := g6 _ (List.getElem_mem (show i - a q < (D q).length by omega))
    have hm := drop_mem (p := p) hget
    rw [show a q + (i - a q) = i by omega] at hv
    generalize (D q)[i - a q] = x at hget hv hx16 hm
    obtain ⟨r1, r2⟩ := ih (i + 1) K (by omega) (by omega)
    rw [show i + 1 - a q = i - a q + 1 by omega] at r1 r2
    have one : zexec skX C zT_G_standsBehindAFirst 3 (K + (f + 1) + 1) 12 [some (.inr (.inr 36)), some (.inl (nI p)), some (.inl (nI q)), some (.inl (nI i))] [] s = if ¬ nI x = nI p then zexec skX C zT_G_standsBehindAFirst 3 (K + f + 1) 12 [some (.inr (.inr 36)), some (.inl (nI p)), some (.inl (nI q)), some (.inl (nI (i + 1)))] [] s else some (some (.inl 1), s) := by
      rw [show K + (f + 1) + 1 = (K + f + 1) + 1 by omega, hX_G_standsBehindAFirst_12]
      unfold bX_G_standsBehindAFirst_12
      rw [zin_nI (show q < 4 by omega) (by decide), nI_clamp (show q < 2 ^ 31 by omega), g4, if_neg (nI_ge hlt (by omega)), nlit16, zin_nI (show q * 16 + i < 64 by omega) (by decide), nI_clamp (show q * 16 + i < 2 ^ 31 by omega), hv, nI_1, zbo_1]
    rw [one]
    by_cases hxp : x = p
    · rw [if_neg (show ¬ ¬ nI x = nI p from fun c => c (by rw [hxp]))]
      exact ⟨fun _ => rfl, fun h => absurd (hm.mpr (Or.inl hxp.symm)) h⟩
    · rw [if_pos (show ¬ nI x = nI p from fun c => hxp ((nI_inj16 hx16 hp).mp c))]
      exact ⟨fun h => r1 ((hm.mp h).resolve_left (fun e => hxp e.symm)), fun h => r2 (fun c => h (hm.mpr (Or.inr c)))⟩
theorem bhX_out {D : Nat → List Nat} {a b : Nat → Nat} {s : zS} {p : Nat} (C : Nat → List zV → zS → zR) (hp : p < 16) (hg : gX s D a b) : ∀ (k q K : Nat), q + k = 4 → 20 * k + 1 ≤ K → zexec skX C zT_G_standsBehindAFirst 3 K 2 [some (.inr (.inr 36)), some (.inl (nI p)), some (.inl (nI q)), none] [] s = some (some (.inl (zBp (∃ i, q ≤ i ∧ i < 4 ∧ p ∈ (D i).tail))), s) := by
  intro k
  induction k with
  | zero =>
    intro q K hq hK
    obtain ⟨K, rfl⟩ : ∃ K', K = K' + 1 := ⟨K - 1, by omega⟩
    rw [hX_G_standsBehindAFirst_2]
    unfold bX_G_standsBehindAFirst_2
    rw [if_pos (show (4 : Int32) ≤ nI q from nI_le (show 4 ≤ q by omega) (by omega)), zbo_0, zBp_f]
    rintro ⟨i, h1, h2, -⟩
    omega
  | succ k ih =>
    intro q K hq hK
    obtain ⟨g1, g2, g3, g4, g5, g6⟩ := hg q (by omega)
    obtain ⟨f, hf⟩ : ∃ f, a q + 1 + f = max (a q + 1) (b q) := ⟨max (a q + 1) (b q) - (a q + 1), by omega⟩
    obtain ⟨K0, hK0⟩ : ∃ K0, K = (K0 + f + 1) + 1 := ⟨K - f - 2, by omega⟩
    obtain ⟨r1, r2⟩ := bhX_in C (show q < 4 by omega) hp hg f (a q + 1) K0 (by omega) (Nat.le_refl _)
    rw [Nat.add_sub_cancel_left, ← tail_drop] at r1 r2
    rw [hK0, hX_G_standsBehindAFirst_2]
    unfold bX_G_standsBehindAFirst_2
    rw [if_neg (show ¬ (4 : Int32) ≤ nI q from nI_ge (show q < 4 by omega) (by decide)), zin_nI (show q < 4 by omega) (by decide), nI_clamp (show q < 2 ^ 31 by omega), g3, nI_1]
    dsimp only
    by_cases hin : p ∈ (D q).tail
    · rw [r1 hin, zBp_t ⟨q, Nat.le_refl _, by omega, hin⟩]
    · rw [r2 hin, ih (q + 1) K0 (by omega) (by omega)]
      rw [zB_iff (q := ∃ i, q ≤ i ∧ i < 4 ∧ p ∈ (D i).tail)]
      constructor
      · rintro ⟨i, h1, h2⟩
        exact ⟨i, by omega, h2⟩
      · rintro ⟨i, h1, h2, h3⟩
        by_cases hiq : i = q
        · rw [hiq] at h3
          exact absurd h3 hin
        · exact ⟨i, by omega, h2, h3⟩
theorem bhX {D : Nat → List Nat} {a b : Nat → Nat} {s : zS} {p : Nat} (d : Nat) (hp : p < 16) (hg : gX s D a b) : zcall zMs skX (d + 1) 14 [.inr (.inr 36), .inl (nI p)] s = some (some (.inl (zBp (rBh D 4 p))), s) := by
  rw [aX_G_standsBehindAFirst]
  unfold bX_G_standsBehindAFirst_0
  have := bhX_out (zcall zMs skX d) hp hg 4 0 19999 (by omega) (by omega)
  rw [nI_0] at this
  rw [this]
  rw [zB_iff (q := rBh D 4 p)]
  constructor
  · rintro ⟨i, h1, h2⟩
    exact ⟨i, h2⟩
  · rintro ⟨i, h2⟩
    exact ⟨i, Nat.zero_le _, h2⟩
def oIX (o : Option Nat) : Int32 := match o with
  | none => -1
  | some x => nI x
theorem nxX_out {D : Nat → List Nat} {a b : Nat → Nat} {s : zS} (d : Nat) (hg : gX s D a b) : ∀ (k q K : Nat), q + k = 4 → k < K → zexec skX (zcall zMs skX (d + 1)) zT_G_findNext 1 K 2 [some (.inr (.inr 36)), some (.inl (nI q)), none] [] s = some (some (.inl (oIX (rNx D 4 k q))), s) := by
  intro k
  induction k with
  | zero =>
    intro q K hq hK
    obtain ⟨K, rfl⟩ : ∃ K', K = K' + 1 := ⟨K - 1, by omega⟩
    rw [hX_G_findNext_2]
    unfold bX_G_findNext_2
    rw [if_pos (show (4 : Int32) ≤ nI q from nI_le (show 4 ≤ q by omega) (by omega))]
    rfl
  | succ k ih =>
    intro q K hq hK
    obtain ⟨K, rfl⟩ : ∃ K', K = K' + 1 := ⟨K - 1, by omega⟩
    obtain ⟨g1, g2, g3, g4, g5, g6⟩ := hg q (by omega)
    have hr := ih (q + 1) K (by omega) (by omega)
    rw [hX_G_findNext_2]
    unfold bX_G_findNext_2
    rw [if_neg (show ¬ (4 : Int32) ≤ nI q from nI_ge (show q < 4 by omega) (by decide)), zin_nI (show q < 4 by omega) (by decide), zin_nI (show q < 4 by omega) (by decide), nI_clamp (show q < 2 ^ 31 by omega), g3, g4]
    cases hD : D q with
    | nil =>
      have hl : (D q).length = 0 := by rw [hD]; rfl
      rw [if_pos (nI_le (by omega) (by omega)), nI_1, hr, rNx_e hD]
    | cons x xs =>
      have hl : (D q).length = xs.length + 1 := by rw [hD]; rfl
      have hv := g5 0 x (by rw [hD]; rfl)
      rw [Nat.add_zero] at hv
      have hx := g6 x (by rw [hD]; exact List.mem_cons_self)
      rw [if_neg (nI_ge (show a q < b q by omega) (by omega)), zin_nI (show q < 4 by omega) (by decide), nlit16, zin_nI (show q * 16 + a q < 64 by omega) (by decide), nI_clamp (show q * 16 + a q < 2 ^ 31 by omega), hv]
      dsimp only
      rw [bhX d hx hg, zcI_some]
      by_cases hb : rBh D 4 x
      · rw [zBp_t hb, if_pos o1, nI_1, hr, rNx_b hD hb]
      · rw [zBp_f hb, if_neg z0, rNx_s hD hb]
        rfl
theorem nxX {D : Nat → List Nat} {a b : Nat → Nat} {s : zS} (d : Nat) (hg : gX s D a b) : zcall zMs skX (d + 2) 13 [.inr (.inr 36)] s = some (some (.inl (oIX (rNx D 4 4 0))), s) := by
  rw [aX_G_findNext]
  unfold bX_G_findNext_0
  have := nxX_out d hg 4 0 19999 (by omega) (by omega)
  rw [nI_0] at this
  exact this

theorem bhM_in {D : Nat → List Nat} {a b : Nat → Nat} {s : zS} {N : Nat} {p q : Nat} (C : Nat → List zV → zS → zR) (hN4 : N ≤ 4) (hq : q < N) (hp : p < 16) (hg : gM s N D a b) : ∀ (f i K : Nat), i + f = max (a q + 1) (b q) → a q + 1 ≤ i → (p ∈ (D q).drop (i - a q) → zexec skM C zT_M_isBehind 3 (K + f + 1) 12 [some (.inr (.inr 0)), some (.inl (nI p)), some (.inl (nI N)), some (.inl (nI q)), some (.inl (nI i))] [] s = some (some (.inl 1), s)) ∧ (¬ p ∈ (D q).drop (i - a q) → zexec skM C zT_M_isBehind 3 (K + f + 1) 12 [some (.inr (.inr 0)), some (.inl (nI p)), some (.inl (nI N)), some (.inl (nI q)), some (.inl (nI i))] [] s = zexec skM C zT_M_isBehind 3 K 2 [some (.inr (.inr 0)), some (.inl (nI p)), some (.inl (nI N)), some (.inl (nI (q + 1))), none] [] s) := by
  obtain ⟨g1, g2, g3, g4, g5, g6⟩ := hg q (by omega)
  intro f
  induction f with
  | zero =>
    intro i K hi hi2
    have hd : (D q).drop (i - a q) = [] := List.drop_eq_nil_of_le (by omega)
    rw [hd]
    refine ⟨fun h => absurd h List.not_mem_nil, fun _ => ?_⟩
    rw [show K + 0 + 1 = K + 1 by omega, hM_M_isBehind_12]
    unfold bM_M_isBehind_12
    rw [zin_nI (show q < 4 by omega) (by decide), nI_clamp (show q < 2 ^ 31 by omega), g4, if_pos (nI_le (show b q ≤ i by omega) (by omega)), nI_1]
  | succ f ih =>
    intro i K hi hi2
    have hlt : i < b q := by omega
    have hget : (D q)[i - a q]? = some (D q)[i - a q] := List.getElem?_eq_getElem (by omega)
    have hv := g5 _ _ hget
    have hx16 := g6 _ (List.getElem_mem (show i - a q < (D q).length by omega))
    have hm := drop_mem (p := p) hget
    rw [show a q + (i - a q) = i by omega] at hv
    generalize (D q)[i - a q] = x at hget hv hx16 hm
    obtain ⟨r1, r2⟩ := ih (i + 1) K (by omega) (by omega)
    rw [show i + 1 - a q = i - a q + 1 by omega] at r1 r2
    have one : zexec skM C zT_M_isBehind 3 (K + (f + 1) + 1) 12 [some (.inr (.inr 0)), some (.inl (nI p)), some (.inl (nI N)), some (.inl (nI q)), some (.inl (nI i))] [] s = if ¬ nI x = nI p then zexec skM C zT_M_isBehind 3 (K + f + 1) 12 [some (.inr (.inr 0)), some (.inl (nI p)), some (.inl (nI N)), some (.inl (nI q)), some (.inl (nI (i + 1)))] [] s else some (some (.inl 1), s) := by
      rw [show K + (f + 1) + 1 = (K + f + 1) + 1 by omega, hM_M_isBehind_12]
      unfold bM_M_isBehind_12
      rw [zin_nI (show q < 4 by omega) (by decide), nI_clamp (show q < 2 ^ 31 by omega), g4, if_neg (nI_ge hlt (by omega)), nlit17, zin_nI (show 17 * q + i < 68 by omega) (by decide), nI_clamp (show 17 * q + i < 2 ^ 31 by omega), hv, nI_1, zbo_1]
    rw [one]
    by_cases hxp : x = p
    · rw [if_neg (show ¬ ¬ nI x = nI p from fun c => c (by rw [hxp]))]
      exact ⟨fun _ => rfl, fun h => absurd (hm.mpr (Or.inl hxp.symm)) h⟩
    · rw [if_pos (show ¬ nI x = nI p from fun c => hxp ((nI_inj16 hx16 hp).mp c))]
      exact ⟨fun h => r1 ((hm.mp h).resolve_left (fun e => hxp e.symm)), fun h => r2 (fun c => h (hm.mpr (Or.inr c)))⟩
theorem bhM_out {D : Nat → List Nat} {a b : Nat → Nat} {s : zS} {N : Nat} {p : Nat} (C : Nat → List zV → zS → zR) (hN4 : N ≤ 4) (hp : p < 16) (hg : gM s N D a b) : ∀ (k q K : Nat), q + k = N → 20 * k + 1 ≤ K → zexec skM C zT_M_isBehind 3 K 2 [some (.inr (.inr 0)), some (.inl (nI p)), some (.inl (nI N)), some (.inl (nI q)), none] [] s = some (some (.inl (zBp (∃ i, q ≤ i ∧ i < N ∧ p ∈ (D i).tail))), s) := by
  intro k
  induction k with
  | zero =>
    intro q K hq hK
    obtain ⟨K, rfl⟩ : ∃ K', K = K' + 1 := ⟨K - 1, by omega⟩
    rw [hM_M_isBehind_2]
    unfold bM_M_isBehind_2
    rw [if_pos (show nI N ≤ nI q from nI_le (show N ≤ q by omega) (by omega)), zbo_0, zBp_f]
    rintro ⟨i, h1, h2, -⟩
    omega
  | succ k ih =>
    intro q K hq hK
    obtain ⟨g1, g2, g3, g4, g5, g6⟩ := hg q (by omega)
    obtain ⟨f, hf⟩ : ∃ f, a q + 1 + f = max (a q + 1) (b q) := ⟨max (a q + 1) (b q) - (a q + 1), by omega⟩
    obtain ⟨K0, hK0⟩ : ∃ K0, K = (K0 + f + 1) + 1 := ⟨K - f - 2, by omega⟩
    obtain ⟨r1, r2⟩ := bhM_in C hN4 (show q < N by omega) hp hg f (a q + 1) K0 (by omega) (Nat.le_refl _)
    rw [Nat.add_sub_cancel_left, ← tail_drop] at r1 r2
    rw [hK0, hM_M_isBehind_2]
    unfold bM_M_isBehind_2
    rw [if_neg (show ¬ nI N ≤ nI q from nI_ge (show q < N by omega) (by omega)), zin_nI (show q < 4 by omega) (by decide), nI_clamp (show q < 2 ^ 31 by omega), g3, nI_1]
    dsimp only
    by_cases hin : p ∈ (D q).tail
    · rw [r1 hin, zBp_t ⟨q, Nat.le_refl _, by omega, hin⟩]
    · rw [r2 hin, ih (q + 1) K0 (by omega) (by omega)]
      rw [zB_iff (q := ∃ i, q ≤ i ∧ i < N ∧ p ∈ (D i).tail)]
      constructor
      · rintro ⟨i, h1, h2⟩
        exact ⟨i, by omega, h2⟩
      · rintro ⟨i, h1, h2, h3⟩
        by_cases hiq : i = q
        · rw [hiq] at h3
          exact absurd h3 hin
        · exact ⟨i, by omega, h2, h3⟩
theorem bhM {D : Nat → List Nat} {a b : Nat → Nat} {s : zS} {N : Nat} {p : Nat} (d : Nat) (hN4 : N ≤ 4) (hp : p < 16) (hg : gM s N D a b) : zcall zMs skM (d + 1) 142 [.inr (.inr 0), .inl (nI p), .inl (nI N)] s = some (some (.inl (zBp (rBh D N p))), s) := by
  rw [aM_M_isBehind]
  unfold bM_M_isBehind_0
  have := bhM_out (zcall zMs skM d) hN4 hp hg N 0 19999 (by omega) (by omega)
  rw [nI_0] at this
  rw [this]
  rw [zB_iff (q := rBh D N p)]
  constructor
  · rintro ⟨i, h1, h2⟩
    exact ⟨i, h2⟩
  · rintro ⟨i, h2⟩
    exact ⟨i, Nat.zero_le _, h2⟩
def oIM (o : Option Nat) : Int32 := match o with
  | none => -1
  | some x => nI x
theorem nxM_out {D : Nat → List Nat} {a b : Nat → Nat} {s : zS} {N : Nat} (d : Nat) (hN4 : N ≤ 4) (hg : gM s N D a b) : ∀ (k q K : Nat), q + k = N → k < K → zexec skM (zcall zMs skM (d + 1)) zT_M_next 1 K 2 [some (.inr (.inr 0)), some (.inl (nI N)), some (.inl (nI q))] [] s = some (some (.inl (oIM (rNx D N k q))), s) := by
  intro k
  induction k with
  | zero =>
    intro q K hq hK
    obtain ⟨K, rfl⟩ : ∃ K', K = K' + 1 := ⟨K - 1, by omega⟩
    rw [hM_M_next_2]
    unfold bM_M_next_2
    rw [if_pos (show nI N ≤ nI q from nI_le (show N ≤ q by omega) (by omega))]
    rfl
  | succ k ih =>
    intro q K hq hK
    obtain ⟨K, rfl⟩ : ∃ K', K = K' + 1 := ⟨K - 1, by omega⟩
    obtain ⟨g1, g2, g3, g4, g5, g6⟩ := hg q (by omega)
    have hr := ih (q + 1) K (by omega) (by omega)
    rw [hM_M_next_2]
    unfold bM_M_next_2
    rw [if_neg (show ¬ nI N ≤ nI q from nI_ge (show q < N by omega) (by omega)), zin_nI (show q < 4 by omega) (by decide), zin_nI (show q < 4 by omega) (by decide), nI_clamp (show q < 2 ^ 31 by omega), g3, g4]
    cases hD : D q with
    | nil =>
      have hl : (D q).length = 0 := by rw [hD]; rfl
      rw [if_pos (nI_le (by omega) (by omega)), nI_1, hr, rNx_e hD]
    | cons x xs =>
      have hl : (D q).length = xs.length + 1 := by rw [hD]; rfl
      have hv := g5 0 x (by rw [hD]; rfl)
      rw [Nat.add_zero] at hv
      have hx := g6 x (by rw [hD]; exact List.mem_cons_self)
      rw [if_neg (nI_ge (show a q < b q by omega) (by omega)), zin_nI (show q < 4 by omega) (by decide), nlit17, zin_nI (show 17 * q + a q < 68 by omega) (by decide), nI_clamp (show 17 * q + a q < 2 ^ 31 by omega), hv]
      skip
      rw [bhM d hN4 hx hg, zcI_some]
      by_cases hb : rBh D N x
      · rw [zBp_t hb, if_pos o1, nI_1, hr, rNx_b hD hb]
      · rw [zBp_f hb, if_neg z0, rNx_s hD hb]
        rw [zin_nI (show q < 4 by omega) (by decide), g3, nlit17, zin_nI (show 17 * q + a q < 68 by omega) (by decide), nI_clamp (show 17 * q + a q < 2 ^ 31 by omega), hv]
        rfl
theorem nxM {D : Nat → List Nat} {a b : Nat → Nat} {s : zS} {N : Nat} (d : Nat) (hN4 : N ≤ 4) (hg : gM s N D a b) : zcall zMs skM (d + 2) 143 [.inr (.inr 0), .inl (nI N)] s = some (some (.inl (oIM (rNx D N N 0))), s) := by
  rw [aM_M_next]
  unfold bM_M_next_0
  have := nxM_out d hN4 hg N 0 19999 (by omega) (by omega)
  rw [nI_0] at this
  exact this
