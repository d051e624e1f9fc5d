/-! hidden -/
theorem aB_congr {p q : Nat → Bool} : ∀ k, (∀ b, b < k → p b = q b) → aB p k = aB q k := by
  intro k
  induction k with
  | zero => intro _; rfl
  | succ k ih =>
    intro h
    unfold aB
    rw [ih (fun b hb => h b (by omega)), h k (by omega)]
theorem le16 {i : Nat} (h : i < 16) : ¬ (16 : Int32) ≤ nI i := by
  rw [zle, nI_toInt (by omega), show (16 : Int32).toInt = 16 by decide]
  omega
def aFnd (W : aW) (o i : Nat) : Int32 := aFst (fun x => aHas W x i) (aO W o) 0
theorem aHit {W : aW} {o p j0 i : Nat} {r : Int32} (hf : aWf W) (ho : o < aN W) (hp : (aO W o)[j0]? = some p) (hc : (r = -1 ∧ aFnd W o i = -1) ∨ ∃ j x, (aO W o)[j]? = some x ∧ aFnd W o i = nI j ∧ r = nI x) : (r = nI p) ↔ aFnd W o i = nI j0 := by
  have hlen := aWf_len hf ho
  have hj0 := (List.getElem?_eq_some_iff.mp hp).1
  have hn := hf.1
  have hpm : p < aN W := aWf_mem hf ho (List.mem_of_getElem? hp)
  rcases hc with ⟨rfl, h2⟩ | ⟨j, x, h1, h2, rfl⟩
  · rw [h2]
    exact ⟨fun e => absurd e.symm (nI_neg1 (by omega)), fun e => absurd e.symm (nI_neg1 (by omega))⟩
  · have hj := (List.getElem?_eq_some_iff.mp h1).1
    have hxm : x < aN W := aWf_mem hf ho (List.mem_of_getElem? h1)
    rw [h2, nI_eq (by omega) (by omega), nI_eq (by omega) (by omega)]
    constructor
    · rintro rfl
      exact (List.getElem?_inj hj (hf.2.2.1 o ho).2.2.2.2.2.2).mp (h1.trans hp.symm)
    · rintro rfl
      rw [h1] at hp
      exact Option.some.inj hp
def aHid (W : aW) (o p j0 : Nat) (i : Nat) : Bool := aHas W p i && !decide (aFnd W o i = nI j0)
theorem sX_hid_loop {W : aW} (d o p j0 : Nat) (s : zS) (hf : aWf W) (hX : aX 2 s W) (ho : o < aN W) (hp : (aO W o)[j0]? = some p) : ∀ (f n i : Nat), i + f = 16 → f < n → zexec skX (zcall zMs skX (d + 3)) zT_W_hiddenSlots 1 n 4 [some (.inr (.inr 2)), some (.inl (nI o)), some (.inl (nI p)), some (.inl (aB (aHid W o p j0) i)), some (.inl (nI i))] [] s = some (some (.inl (aB (aHid W o p j0) 16)), s) := by
  have hpm : p < aN W := aWf_mem hf ho (List.mem_of_getElem? hp)
  intro f
  induction f with
  | zero =>
    intro n i hi hn
    obtain ⟨n, rfl⟩ : ∃ n', n = n' + 1 := ⟨n - 1, by omega⟩
    obtain rfl : i = 16 := by omega
    rw [hX_W_hiddenSlots_4]
    unfold bX_W_hiddenSlots_4
    rw [if_pos (by decide)]
  | succ f ih =>
    intro n i hi hn
    obtain ⟨n, rfl⟩ : ∃ n', n = n' + 1 := ⟨n - 1, by omega⟩
    rw [hX_W_hiddenSlots_4]
    unfold bX_W_hiddenSlots_4
    rw [if_neg (le16 (by omega)), sX_hasOwn (d + 2) p i s hf hX hpm (by omega), zcI_some]
    have hi16 : i < 16 := by omega
    have nx := ih n (i + 1) (by omega) (by omega)
    by_cases hh : aHas W p i = true
    · obtain ⟨r, hr, hc⟩ := sX_foundIn d o i s hf hX ho hi16
      rw [zBp_t hh, if_neg (by decide), hr, zcI_some]
      by_cases he : r = nI p
      · have hz : aHid W o p j0 i = false := by
          unfold aHid
          rw [decide_eq_true ((aHit hf ho hp hc).mp he)]
          simp
        rw [if_pos he, nI_1]
        rw [show aB (aHid W o p j0) (i + 1) = aB (aHid W o p j0) i by rw [aB, if_neg (by rw [hz]; decide)]] at nx
        exact nx
      · have hz : aHid W o p j0 i = true := by
          unfold aHid
          rw [hh, decide_eq_false (fun e => he ((aHit hf ho hp hc).mpr e))]
          rfl
        rw [if_neg he, nI_1]
        rw [show aB (aHid W o p j0) (i + 1) = aB (aHid W o p j0) i ||| ((1 : Int32) <<< (nI i &&& 31)) by rw [aB, if_pos hz]] at nx
        exact nx
    · have hz : aHid W o p j0 i = false := by
        unfold aHid
        rw [Bool.not_eq_true] at hh
        rw [hh]
        rfl
      rw [zBp_f hh, if_pos rfl, nI_1]
      rw [show aB (aHid W o p j0) (i + 1) = aB (aHid W o p j0) i by rw [aB, if_neg (by rw [hz]; decide)]] at nx
      exact nx
theorem sX_hidden {W : aW} (d o p j0 : Nat) (s : zS) (hf : aWf W) (hX : aX 2 s W) (ho : o < aN W) (hp : (aO W o)[j0]? = some p) : zcall zMs skX (d + 4) 76 [.inr (.inr 2), .inl (nI o), .inl (nI p)] s = some (some (.inl (aB (aHid W o p j0) 16)), s) := by
  rw [aX_W_hiddenSlots]
  unfold bX_W_hiddenSlots_0
  have := sX_hid_loop d o p j0 s hf hX ho hp 16 19999 0 (by omega) (by omega)
  rw [nI_0, show aB (aHid W o p j0) 0 = 0 from rfl] at this
  exact this
theorem sM_hid_loop {W : aW} (d o p j0 : Nat) (t : zS) (hf : aWf W) (hM : aM (mFl t) W) (ho : o < aN W) : ∀ (f n i : Nat), i + f = 16 → f < n → zexec skM (zcall zMs skM (d + 2)) zT_M_hidden 1 n 31 [some (.inr (.inr 0)), some (.inl (nI o)), none, some (.inl (nI j0)), some (.inl (aB (fun b => aHas W p b && !(decide (b < i) && decide (aFnd W o b = nI j0))) 16)), some (.inl (nI i))] [] t = some (some (.inl (aB (aHid W o p j0) 16)), t) := by
  intro f
  induction f with
  | zero =>
    intro n i hi hn
    obtain ⟨n, rfl⟩ : ∃ n', n = n' + 1 := ⟨n - 1, by omega⟩
    obtain rfl : i = 16 := by omega
    rw [hM_M_hidden_31]
    unfold bM_M_hidden_31
    rw [if_pos (by decide)]
    rw [aB_congr (q := aHid W o p j0) 16 (fun b hb => by unfold aHid; simp [hb])]
  | succ f ih =>
    intro n i hi hn
    obtain ⟨n, rfl⟩ : ∃ n', n = n' + 1 := ⟨n - 1, by omega⟩
    have hi16 : i < 16 := by omega
    have nx := ih n (i + 1) (by omega) (by omega)
    have h0 := sM_found d o i 0 t hf hM ho hi16 (Nat.zero_le _)
    rw [nI_0, List.drop_zero] at h0
    rw [hM_M_hidden_31]
    unfold bM_M_hidden_31
    rw [if_neg (le16 hi16), h0, zcI_some, nI_1]
    by_cases he : aFst (fun x => aHas W x i) (aO W o) 0 = nI j0
    · rw [if_neg (fun e => e he), aB_clr _ i hi16]
      rw [aB_congr (q := fun b => aHas W p b && !(decide (b < i + 1) && decide (aFnd W o b = nI j0))) 16 (fun b hb => by
        by_cases hb2 : b = i
        · subst hb2
          have he' : aFnd W o b = nI j0 := he
          simp [he']
        · have : (b < i + 1) ↔ b < i := by omega
          simp [hb2, this])]
      exact nx
    · rw [if_pos he]
      rw [aB_congr (q := fun b => aHas W p b && !(decide (b < i + 1) && decide (aFnd W o b = nI j0))) 16 (fun b hb => by
        by_cases hb2 : b = i
        · subst hb2
          have he' : ¬ aFnd W o b = nI j0 := he
          simp [he']
        · have : (b < i + 1) ↔ b < i := by omega
          simp [this])]
      exact nx
theorem sim_hidden (a1 a2 : Int32) : zSim aRel 100 175 [.inl a1, .inl a2] := by
  intro s t h
  obtain ⟨d, hd⟩ := zDp_8
  rw [hd]
  obtain ⟨W, hf, hX, hM, -, -, -⟩ := id h
  have hn := hf.1
  rw [aX_X_hidden, aM_M_hidden]
  unfold bX_X_hidden_0 bM_M_hidden_0
  rw [sX_hasObject (n := aN W) _ a1 s hX.1 hf.1, sM_isOne (n := aN W) _ a1 t (aM_n hM) hf.1, zcI_some, zcI_some]
  by_cases h1 : zIn a1 (aN W)
  · rw [zBp_t h1, if_neg (by decide), if_neg (by decide), sX_hasObject (n := aN W) _ a2 s hX.1 hf.1, sM_isOne (n := aN W) _ a2 t (aM_n hM) hf.1, zcI_some, zcI_some]
    by_cases h2 : zIn a2 (aN W)
    · obtain ⟨o, ho, rfl⟩ := zIn_ex h1 (by omega)
      obtain ⟨p, hp, rfl⟩ := zIn_ex h2 (by omega)
      have hlen := aWf_len hf ho
      rw [zBp_t h2, if_pos (by decide), if_pos (by decide), sX_distanceTo _ o p s hf hX ho (by omega), sM_place _ o p t hf hM ho (by omega), zcI_some, zcI_some]
      rcases aFst_cases (fun x => decide (x = p)) (aO W o) 0 with ⟨e, -⟩ | ⟨j0, x, e1, e2, e3, -⟩
      · rw [e, if_neg (fun c => c rfl), if_neg (fun c => c rfl), sX_refuse6, sM_no6, zcI_some, zcI_some]
        exact ⟨_, _, _, rfl, rfl, aRel_refuse 6 h⟩
      · obtain rfl : x = p := of_decide_eq_true e2
        have hj0 := (List.getElem?_eq_some_iff.mp e1).1
        rw [Nat.zero_add] at e3
        have x1 := sX_hidden (d + 3) o x j0 s hf hX ho e1
        have y1 := sM_hid_loop (p := x) (d + 5) o j0 t hf hM ho 16 19999 0 (by omega) (by omega)
        rw [nI_0] at y1
        rw [aB_congr (q := aHas W x) 16 (fun b hb => by simp)] at y1
        rw [e3, if_pos (nI_neg1 (by omega)), if_pos (nI_neg1 (by omega)), x1, zcI_some, zin_nI (by omega) (by omega), nI_clamp (by omega), aM_has hf hM hp]
        exact ⟨_, s, t, rfl, y1, h⟩
    · rw [zBp_f h2, if_neg (by decide), if_neg (by decide), sX_refuse1, sM_no1, zcI_some, zcI_some]
      exact ⟨_, _, _, rfl, rfl, aRel_refuse 1 h⟩
  · rw [zBp_f h1, if_pos rfl, if_pos rfl, sX_refuse1, sM_no1, zcI_some, zcI_some]
    exact ⟨_, _, _, rfl, rfl, aRel_refuse 1 h⟩
