/-! SENDS AND CALLS as functions: what comes of a come to a slot or a way, of a method. State: the slots of SELF, how many ran, the ways that ran -/
abbrev eT : Type := (Nat → Nat × Int32 × Int32) × Nat × List Nat
abbrev eR : Type := Nat × Int32 × eT
abbrev eE : Type := Nat → Nat → Nat → Int32 → eT → eR
def eSlf (W : aW) (o : Nat) (S : Nat → Nat × Int32 × Int32) : aW := (aN W, aK W, aP W, aO W, fun a b => if a = o then S b else aS W a b, aWn W, aWy W, aSd W)
def eUp (S : Nat → Nat × Int32 × Int32) (i : Nat) (v : Nat × Int32 × Int32) : Nat → Nat × Int32 × Int32 := fun b => if b = i then v else S b
def eMod (k : Int32) : Nat := k.toBitVec.toNat % 16
def eBnd (r : eR) (F : Int32 → eT → eR) : eR := if r.1 = 0 then F r.2.1 r.2.2 else (r.1, 0, r.2.2)
def eDo (E : eE) (W : aW) (o c sl ix : Nat) (f k x : Int32) (e : eT) : eR :=
  if f = (0 : Int32) then (0, x + k, e)
  else if f = ((0 : Int32) + 1) then (0, x * k, e)
  else if f = (((0 : Int32) + 1) + 1) then E c sl ix (x + k) e
  else if f = ((((0 : Int32) + 1) + 1) + 1) then eBnd (E c sl ix x e) (fun v e => E c sl ix v e)
  else if f = (((((0 : Int32) + 1) + 1) + 1) + 1) then E 4 (eMod k) 0 x e
  else if f = ((((((0 : Int32) + 1) + 1) + 1) + 1) + 1) then eBnd (E 4 (eMod k) 0 0 e) (fun v e => (0, x + v, e))
  else if f = (((((((0 : Int32) + 1) + 1) + 1) + 1) + 1) + 1) then (if aK W o = 1 ∨ aK W o = 3 then (1, 0, e) else (0, x, (eUp e.1 (eMod k) (1, 0, x), e.2)))
  else if f = ((((((((0 : Int32) + 1) + 1) + 1) + 1) + 1) + 1) + 1) then (if x < k then E c sl ix x e else (0, x, e))
  else if f = (((((((((0 : Int32) + 1) + 1) + 1) + 1) + 1) + 1) + 1) + 1) then (0, nI e.2.1 + x, e)
  else (if (E c sl ix x e).1 = 1 then (0, k, (E c sl ix x e).2.2) else E c sl ix x e)
def eRun (E : eE) (W : aW) (o : Nat) (l : List Nat) (c sl ix : Nat) (f k x : Int32) (e : eT) : eR :=
  if 200 ≤ e.2.1 then (2, 0, e) else eDo E W o c sl ix f k x (e.1, e.2.1 + 1, e.2.2 ++ l)
def eAft (E : eE) (v : Int32) : Nat → eT → eR
  | 0, e => (0, v, e)
  | m + 1, e => eBnd (E 2 0 m v e) (fun _ e => eAft E v m e)
def eMain (E : eE) (A : Nat → List Nat) (x : Int32) (e : eT) : eR := eBnd (E 0 0 0 x e) (fun v e => eAft E v (A 2).length e)
def eBef (E : eE) (A : Nat → List Nat) (x : Int32) : Nat → Nat → eT → eR
  | 0, _, e => eMain E A x e
  | m + 1, i, e => eBnd (E 1 0 i x e) (fun _ e => eBef E A x m (i + 1) e)
def eFst (W : aW) (o : Nat) (S : Nat → Nat × Int32 × Int32) (sl ix : Nat) : Int32 := aFst (fun p => aHas (eSlf W o S) p sl) ((aO W o).drop ix) ix
def eAt (W : aW) (o : Nat) (r : Int32) : Nat := (aO W o).getD r.toNatClampNeg 0
def eSlot (E : eE) (W : aW) (o sl ix : Nat) (x : Int32) (e : eT) : eR :=
  if eFst W o e.1 sl ix = -1 then (1, 0, e)
  else if (aS (eSlf W o e.1) (eAt W o (eFst W o e.1 sl ix)) sl).1 = 1 then (0, (aS (eSlf W o e.1) (eAt W o (eFst W o e.1 sl ix)) sl).2.2, e)
  else eRun E W o [] 4 sl ((eFst W o e.1 sl ix).toNatClampNeg + 1) (aS (eSlf W o e.1) (eAt W o (eFst W o e.1 sl ix)) sl).2.1 (aS (eSlf W o e.1) (eAt W o (eFst W o e.1 sl ix)) sl).2.2 x e
def eWay (E : eE) (W : aW) (o : Nat) (c sl ix w : Nat) (x : Int32) (e : eT) : eR :=
  eRun E W o [w] (if c = 0 ∨ c = 3 then c else 5) sl (if c = 0 ∨ c = 3 then ix + 1 else ix) (aWy W w 4) (aWy W w 5) x e
def ev (W : aW) (o : Nat) (A : Nat → List Nat) : Nat → eE
  | 0 => fun _ _ _ _ e => (2, 0, e)
  | n + 1 => fun c sl ix x e =>
    if c = 4 then eSlot (ev W o A n) W o sl ix x e
    else if ix < (A c).length then eWay (ev W o A n) W o c sl ix ((A c).getD ix 0) x e
    else if c = 3 ∧ 0 < (A 0).length then eBef (ev W o A n) A x (A 1).length 0 e
    else (1, 0, e)
theorem eMod_lt (k : Int32) : eMod k < 16 := Nat.mod_lt _ (by decide)
theorem eSlf_up (W : aW) (o i : Nat) (S : Nat → Nat × Int32 × Int32) (v : Nat × Int32 × Int32) : eSlf W o (eUp S i v) = aSet (eSlf W o S) o i v := by
  unfold eSlf aSet eUp
  have h : (fun a b => if a = o then (if b = i then v else S b) else aS W a b) = (fun a b => if a = o ∧ b = i then v else aS (eSlf W o S) a b) := by
    funext a b
    show _ = if a = o ∧ b = i then v else (if a = o then S b else aS W a b)
    by_cases h1 : a = o <;> by_cases h2 : b = i <;> simp [h1, h2]
  exact congrArg (fun g => ((aN W, aK W, aP W, aO W, g, aWn W, aWy W, aSd W) : aW)) h
def eOk (W : aW) (o : Nat) (e : eT) : Prop := aWf (eSlf W o e.1) ∧ e.2.1 ≤ 200 ∧ e.2.2.length ≤ e.2.1
def ePo (W : aW) (o : Nat) (A : Nat → List Nat) (e : eT) (r : eR) : Prop := r.1 ≤ 2 ∧ eOk W o r.2.2 ∧ e.2.1 ≤ r.2.2.2.1 ∧ ((∀ c, A c = []) → r.2.2.2.2 = e.2.2)
theorem ePo_bnd {W : aW} {o : Nat} {A : Nat → List Nat} {e : eT} {r : eR} {F : Int32 → eT → eR} (h : ePo W o A e r) (hF : ∀ v e', eOk W o e' → ePo W o A e' (F v e')) : ePo W o A e (eBnd r F) := by
  obtain ⟨h1, h2, h3, h4⟩ := h
  unfold eBnd
  split
  · obtain ⟨g1, g2, g3, g4⟩ := hF r.2.1 r.2.2 h2
    exact ⟨g1, g2, Nat.le_trans h3 g3, fun hA => (g4 hA).trans (h4 hA)⟩
  · exact ⟨h1, h2, h3, h4⟩
theorem ePo_0 {W : aW} {o : Nat} {A : Nat → List Nat} {e : eT} (j : Nat) (v : Int32) (hj : j ≤ 2) (h : eOk W o e) : ePo W o A e (j, v, e) := ⟨hj, h, Nat.le_refl _, fun _ => rfl⟩
theorem eDo_ok {W : aW} {o : Nat} {A : Nat → List Nat} {E : eE} (hE : ∀ c sl ix x e, eOk W o e → ePo W o A e (E c sl ix x e)) (c sl ix : Nat) (f k x : Int32) (e : eT) (h : eOk W o e) : ePo W o A e (eDo E W o c sl ix f k x e) := by
  unfold eDo
  by_cases c0 : f = (0 : Int32)
  · rw [if_pos c0]; exact ePo_0 0 _ (by decide) h
  rw [if_neg c0]
  by_cases c1 : f = ((0 : Int32) + 1)
  · rw [if_pos c1]; exact ePo_0 0 _ (by decide) h
  rw [if_neg c1]
  by_cases c2 : f = (((0 : Int32) + 1) + 1)
  · rw [if_pos c2]; exact hE _ _ _ _ _ h
  rw [if_neg c2]
  by_cases c3 : f = ((((0 : Int32) + 1) + 1) + 1)
  · rw [if_pos c3]; exact ePo_bnd (hE _ _ _ _ _ h) (fun v e' h' => hE _ _ _ _ _ h')
  rw [if_neg c3]
  by_cases c4 : f = (((((0 : Int32) + 1) + 1) + 1) + 1)
  · rw [if_pos c4]; exact hE _ _ _ _ _ h
  rw [if_neg c4]
  by_cases c5 : f = ((((((0 : Int32) + 1) + 1) + 1) + 1) + 1)
  · rw [if_pos c5]; exact ePo_bnd (hE _ _ _ _ _ h) (fun v e' h' => ePo_0 0 _ (by decide) h')
  rw [if_neg c5]
  by_cases c6 : f = (((((((0 : Int32) + 1) + 1) + 1) + 1) + 1) + 1)
  · rw [if_pos c6]
    split
    · exact ePo_0 1 _ (by decide) h
    · obtain ⟨h1, h2, h3⟩ := h
      refine ⟨Nat.zero_le _, ⟨?_, h2, h3⟩, Nat.le_refl _, fun _ => rfl⟩
      show aWf (eSlf W o (eUp e.1 (eMod k) (1, 0, x)))
      rw [eSlf_up]
      exact aWf_set h1 (show (1 : Nat) ≤ 2 by decide) (fun h => absurd h (show ¬ (1 : Nat) = 2 by decide)) (fun _ => rfl)
  rw [if_neg c6]
  by_cases c7 : f = ((((((((0 : Int32) + 1) + 1) + 1) + 1) + 1) + 1) + 1)
  · rw [if_pos c7]
    split
    · exact hE _ _ _ _ _ h
    · exact ePo_0 0 _ (by decide) h
  rw [if_neg c7]
  by_cases c8 : f = (((((((((0 : Int32) + 1) + 1) + 1) + 1) + 1) + 1) + 1) + 1)
  · rw [if_pos c8]; exact ePo_0 0 _ (by decide) h
  rw [if_neg c8]
  obtain ⟨g1, g2, g3, g4⟩ := hE c sl ix x e h
  split
  · exact ⟨Nat.zero_le _, g2, g3, g4⟩
  · exact ⟨g1, g2, g3, g4⟩
theorem eRun_ok {W : aW} {o : Nat} {A : Nat → List Nat} {E : eE} (hE : ∀ c sl ix x e, eOk W o e → ePo W o A e (E c sl ix x e)) (l : List Nat) (hl : l.length ≤ 1) (hlA : (∀ c, A c = []) → l = []) (c sl ix : Nat) (f k x : Int32) (e : eT) (h : eOk W o e) : ePo W o A e (eRun E W o l c sl ix f k x e) := by
  unfold eRun
  split
  · exact ePo_0 2 _ (by decide) h
  · rename_i hr
    obtain ⟨h1, h2, h3⟩ := h
    have h' : eOk W o (e.1, e.2.1 + 1, e.2.2 ++ l) := ⟨h1, (by show e.2.1 + 1 ≤ 200; omega), (by show (e.2.2 ++ l).length ≤ e.2.1 + 1; rw [List.length_append]; omega)⟩
    obtain ⟨g1, g2, g3, g4⟩ := eDo_ok hE c sl ix f k x _ h'
    have g5 : e.2.1 + 1 ≤ (eDo E W o c sl ix f k x (e.1, e.2.1 + 1, e.2.2 ++ l)).2.2.2.1 := g3
    refine ⟨g1, g2, by omega, fun hA => ?_⟩
    rw [g4 hA, hlA hA]
    exact List.append_nil _
theorem eAft_ok {W : aW} {o : Nat} {A : Nat → List Nat} {E : eE} (hE : ∀ c sl ix x e, eOk W o e → ePo W o A e (E c sl ix x e)) (v : Int32) : ∀ (m : Nat) (e : eT), eOk W o e → ePo W o A e (eAft E v m e)
  | 0, e, h => ePo_0 0 _ (by decide) h
  | m + 1, e, h => ePo_bnd (hE _ _ _ _ _ h) (fun _ e' h' => eAft_ok hE v m e' h')
theorem eMain_ok {W : aW} {o : Nat} {A : Nat → List Nat} {E : eE} (hE : ∀ c sl ix x e, eOk W o e → ePo W o A e (E c sl ix x e)) (x : Int32) (e : eT) (h : eOk W o e) : ePo W o A e (eMain E A x e) :=
  ePo_bnd (hE _ _ _ _ _ h) (fun v e' h' => eAft_ok hE v _ e' h')
theorem eBef_ok {W : aW} {o : Nat} {A : Nat → List Nat} {E : eE} (hE : ∀ c sl ix x e, eOk W o e → ePo W o A e (E c sl ix x e)) (x : Int32) : ∀ (m i : Nat) (e : eT), eOk W o e → ePo W o A e (eBef E A x m i e)
  | 0, _, e, h => eMain_ok hE x e h
  | m + 1, i, e, h => ePo_bnd (hE _ _ _ _ _ h) (fun _ e' h' => eBef_ok hE x m (i + 1) e' h')
theorem ev_ok (W : aW) (o : Nat) (A : Nat → List Nat) : ∀ (n c sl ix : Nat) (x : Int32) (e : eT), eOk W o e → ePo W o A e (ev W o A n c sl ix x e) := by
  intro n
  induction n with
  | zero =>
    intro c sl ix x e h
    exact ePo_0 2 _ (by decide) h
  | succ n ih =>
    intro c sl ix x e h
    show ePo W o A e (if c = 4 then eSlot (ev W o A n) W o sl ix x e else if ix < (A c).length then eWay (ev W o A n) W o c sl ix ((A c).getD ix 0) x e else if c = 3 ∧ 0 < (A 0).length then eBef (ev W o A n) A x (A 1).length 0 e else (1, 0, e))
    split
    · unfold eSlot
      split
      · exact ePo_0 1 _ (by decide) h
      · split
        · exact ePo_0 0 _ (by decide) h
        · exact eRun_ok ih [] (by decide) (fun _ => rfl) _ _ _ _ _ _ _ h
    · split
      · rename_i hlt
        unfold eWay
        exact eRun_ok ih [_] (by simp) (fun hA => by rw [hA c] at hlt; simp at hlt) _ _ _ _ _ _ _ h
      · split
        · exact eBef_ok ih _ _ _ _ h
        · exact ePo_0 1 _ (by decide) h
/-- k modulo 16, on both sides -/
theorem eMod_and (k : Int32) : k &&& (15 : Int32) = nI (eMod k) := pk_and k 4 (by decide)
