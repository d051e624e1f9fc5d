/-! THE SMALL MACHINE IS RIGHT: what it answers, the machine answers. -/
def zc (ad : Nat → Nat) : zV → Value
  | .inl x => .int x
  | .inr (.inl y) => .long y
  | .inr (.inr k) => .ref (ad k)
def zfv (ad : Nat → Nat) (σ : zS) (k j : Nat) : Option Nat → Value
  | some q => Value.ref (ad q)
  | none => Value.int (σ.1 k j)
def zfs (ad : Nat → Nat) (σ : zS) (k : Nat) (fs : List (Option Nat)) : List Value := fs.mapIdx (fun j f => zfv ad σ k j f)
def zcell (cI cJ : ClassId) (ad : Nat → Nat) (σ : zS) (k : Nat) : zE → va_E
  | .inl n => .inl (cI, n, .inl (σ.1 k))
  | .inr (.inl n) => .inl (cJ, n, .inr (.inl (σ.2 k)))
  | .inr (.inr o) => .inr (o.1, zfs ad σ k o.2)
def zW (cI cJ : ClassId) (ad : Nat → Nat) (sk : List zE) (σ : zS) : va_W := sk.mapIdx (fun k e => (ad k, zcell cI cJ ad σ k e))
theorem zW_get {cI cJ : ClassId} {ad : Nat → Nat} {sk : List zE} {σ : zS} {k : Nat} {e : zE} (h : sk[k]? = some e) : (zW cI cJ ad sk σ)[k]? = some (ad k, zcell cI cJ ad σ k e) := by
  simp [zW, List.getElem?_mapIdx, h]
theorem zW_set {cI cJ : ClassId} {ad : Nat → Nat} {sk : List zE} {σ σ' : zS} {q : Nat} {e : zE} (h : sk[q]? = some e) (ho : ∀ k e', k ≠ q → zcell cI cJ ad σ' k e' = zcell cI cJ ad σ k e') : (zW cI cJ ad sk σ).set q (ad q, zcell cI cJ ad σ' q e) = zW cI cJ ad sk σ' := by
  apply List.ext_getElem?
  intro k
  have hl : q < sk.length := (List.getElem?_eq_some_iff.mp h).1
  by_cases hk : k = q
  · subst hk
    rw [List.getElem?_set_self (by simp [zW]; exact hl), zW_get h]
  · rw [List.getElem?_set_ne (Ne.symm hk)]
    simp only [zW, List.getElem?_mapIdx]
    cases hs : sk[k]? with
    | none => rfl
    | some e' => simp [ho k e' hk]
theorem zup_ne {α : Type} {f : Nat → Nat → α} {k q j : Nat} {v : α} (h : k ≠ q) : zup f q j v k = f k := by
  funext b
  simp [zup, h]
theorem zup_eq (f : Nat → Nat → Int32) (q j : Nat) (v : Int32) : zup f q j v q = upd (f q) j v := by
  funext b
  simp [zup, upd]
theorem zup_eqL (f : Nat → Nat → Int64) (q j : Nat) (v : Int64) : zup f q j v q = vp_updL (f q) j v := by
  funext b
  simp [zup, vp_updL]
theorem zcp_ne {α : Type} {f : Nat → Nat → α} {a b sp dp n k : Nat} (h : k ≠ b) : zcp f a b sp dp n k = f k := by
  funext j
  simp [zcp, h]
theorem zcp_eq {α : Type} (f : Nat → Nat → α) (a b sp dp n : Nat) : zcp f a b sp dp n b = va_cpy (f a) (f b) sp dp n := by
  funext j
  simp [zcp]
theorem zcell_zs {cI cJ : ClassId} {ad : Nat → Nat} {σ : zS} {q j : Nat} {v : Int32} (k : Nat) (e : zE) (h : k ≠ q) : zcell cI cJ ad (zs σ q j v) k e = zcell cI cJ ad σ k e := by
  rcases e with n | n | o
  · simp only [zcell, zs, zup_ne h]
  · rfl
  · simp only [zcell, zfs, zfv, zs, zup_ne h]
theorem zcell_zsl {cI cJ : ClassId} {ad : Nat → Nat} {σ : zS} {q j : Nat} {v : Int64} (k : Nat) (e : zE) (h : k ≠ q) : zcell cI cJ ad (zsl σ q j v) k e = zcell cI cJ ad σ k e := by
  rcases e with n | n | o
  · rfl
  · simp only [zcell, zsl, zup_ne h]
  · rfl
theorem zcell_zsc {cI cJ : ClassId} {ad : Nat → Nat} {σ : zS} {a b sp dp n : Nat} (k : Nat) (e : zE) (h : k ≠ b) : zcell cI cJ ad (zsc σ a b sp dp n) k e = zcell cI cJ ad σ k e := by
  rcases e with m | m | o
  · simp only [zcell, zsc, zcp_ne h]
  · rfl
  · simp only [zcell, zfs, zfv, zsc, zcp_ne h]
theorem zcell_zslc {cI cJ : ClassId} {ad : Nat → Nat} {σ : zS} {a b sp dp n : Nat} (k : Nat) (e : zE) (h : k ≠ b) : zcell cI cJ ad (zslc σ a b sp dp n) k e = zcell cI cJ ad σ k e := by
  rcases e with m | m | o
  · rfl
  · simp only [zcell, zslc, zcp_ne h]
  · rfl
theorem zfs_get {ad : Nat → Nat} {σ : zS} {k j : Nat} {fs : List (Option Nat)} {o : Option Nat} (h : fs[j]? = some o) : (zfs ad σ k fs)[j]? = some (zfv ad σ k j o) := by
  simp only [zfs, List.getElem?_mapIdx, h]
  rfl
theorem zfs_set {ad : Nat → Nat} {σ : zS} {k j : Nat} {fs : List (Option Nat)} {x : Int32} (h : fs[j]? = some none) : (zfs ad σ k fs).set j (.int x) = zfs ad (zs σ k j x) k fs := by
  apply List.ext_getElem?
  intro i
  have hl : j < fs.length := (List.getElem?_eq_some_iff.mp h).1
  by_cases hk : i = j
  · subst hk
    rw [List.getElem?_set_self (by simp [zfs]; exact hl), zfs_get h]
    simp [zfv, zs, zup]
  · rw [List.getElem?_set_ne (Ne.symm hk)]
    simp only [zfs, List.getElem?_mapIdx]
    cases hs : fs[i]? with
    | none => rfl
    | some o =>
      cases o with
      | some q => rfl
      | none => simp [zfv, zs, zup, hk]
/-! the locals -/
def zloc (ad : Nat → Nat) (nL : Nat) (l : zL) (ls : Array Slot) : Prop := ls.size = nL ∧ lv_wf ls ∧ ∀ (i : Nat) (v : zV), l[i]? = some (some v) → ls[i]? = some (Slot.val (zc ad v))
def zas (ad : Nat → Nat) (l : zL) : List (Nat × Value) := (List.range l.length).filterMap (fun i => match l[i]? with
  | some (some v) => some (i, zc ad v)
  | _ => none)
theorem zas_mem {ad : Nat → Nat} {l : zL} {q : Nat × Value} : q ∈ zas ad l ↔ ∃ v, l[q.1]? = some (some v) ∧ q.2 = zc ad v := by
  constructor
  · intro h
    obtain ⟨i, -, hi⟩ := List.mem_filterMap.mp h
    split at hi
    next v hv =>
      cases hi
      exact ⟨v, hv, rfl⟩
    next => cases hi
  · rintro ⟨v, hv, hq⟩
    refine List.mem_filterMap.mpr ⟨q.1, List.mem_range.mpr (List.getElem?_eq_some_iff.mp hv).1, ?_⟩
    simp [hv, ← hq]
theorem zloc.has {ad : Nat → Nat} {nL : Nat} {l : zL} {ls : Array Slot} (h : zloc ad nL l ls) : lv_has ls nL (zas ad l) :=
  ⟨h.1, h.2.1, fun q hq => by obtain ⟨v, hv, e⟩ := zas_mem.mp hq; rw [e]; exact h.2.2 _ _ hv⟩
theorem zc_cat (ad : Nat → Nat) (v : zV) : (zc ad v).category = zw v := by
  rcases v with x | y | k <;> rfl
theorem zloc_set {ad : Nat → Nat} {nL : Nat} {l : zL} {ls ls' : Array Slot} {i : Nat} {x : Int32} (h : zloc ad nL l ls) (hf : zfree l i = true)
    (h' : lv_has ls' nL ((i, Value.int x) :: (zas ad l).filter (fun q => !(q.1 == i) && !(q.1 + 1 == i && q.2.category == 2)))) : zloc ad nL (l.set i (some (.inl x))) ls' := by
  refine ⟨h'.1, h'.2.1, fun j v hv => ?_⟩
  by_cases hj : j = i
  · subst hj
    have hlt : j < l.length := by
      have := (List.getElem?_eq_some_iff.mp hv).1
      simpa using this
    rw [List.getElem?_set_self hlt] at hv
    cases hv
    exact h'.2.2 (j, .int x) List.mem_cons_self
  · rw [List.getElem?_set_ne (Ne.symm hj)] at hv
    refine h'.2.2 (j, zc ad v) (List.mem_cons_of_mem _ (List.mem_filter.mpr ⟨zas_mem.mpr ⟨v, hv, rfl⟩, ?_⟩))
    have h2 : ¬ (j + 1 = i ∧ (zc ad v).category = 2) := by
      rintro ⟨e1, e2⟩
      subst e1
      rcases v with y | y | y
      · simp [zc, Value.category] at e2
      · simp [zfree, hv] at hf
      · simp [zc, Value.category] at e2
    simp only [Bool.and_eq_true, Bool.not_eq_true', beq_eq_false_iff_ne, ne_eq, hj, not_false_eq_true, true_and, Bool.and_eq_false_iff]
    by_cases e1 : j + 1 = i
    · exact Or.inr (fun e2 => h2 ⟨e1, by simpa using e2⟩)
    · exact Or.inl e1
theorem zloc_mask {ad : Nat → Nat} {nL : Nat} {ls : Array Slot} : ∀ (is : List Nat) {l : zL}, zloc ad nL l ls → zloc ad nL (zmask is l) ls
  | [], _, h => h
  | i :: is, l, h => zloc_mask is (l := l.set i none) ⟨h.1, h.2.1, fun j v hv => by
      by_cases hj : j = i
      · subst hj
        rw [List.getElem?_set] at hv
        split at hv
        · split at hv <;> cases hv
        · exact absurd rfl (by assumption)
      · rw [List.getElem?_set_ne (Ne.symm hj)] at hv
        exact h.2.2 j v hv⟩
theorem zargs_get (ad : Nat → Nat) : ∀ (vs : List zV) (b i : Nat) (v : zV), (zargs vs)[i]? = some (some v) → (b + i, zc ad v) ∈ lv_args b (vs.map (zc ad))
  | [], b, i, v, h => by simp [zargs] at h
  | .inl x :: vs, b, i, v, h => by
    cases i with
    | zero => simp only [zargs, List.getElem?_cons_zero] at h; cases h; exact List.mem_cons_self
    | succ i =>
      simp only [zargs, List.getElem?_cons_succ] at h
      have := zargs_get ad vs (b + 1) i v h
      refine List.mem_cons_of_mem _ ?_
      simpa [zc, Value.category, Nat.add_comm, Nat.add_left_comm, Nat.add_assoc] using this
  | .inr (.inr x) :: vs, b, i, v, h => by
    cases i with
    | zero => simp only [zargs, List.getElem?_cons_zero] at h; cases h; exact List.mem_cons_self
    | succ i =>
      simp only [zargs, List.getElem?_cons_succ] at h
      have := zargs_get ad vs (b + 1) i v h
      refine List.mem_cons_of_mem _ ?_
      simpa [zc, Value.category, Nat.add_comm, Nat.add_left_comm, Nat.add_assoc] using this
  | .inr (.inl x) :: vs, b, i, v, h => by
    cases i with
    | zero => simp only [zargs, List.getElem?_cons_zero] at h; cases h; exact List.mem_cons_self
    | succ i =>
      cases i with
      | zero => simp [zargs] at h
      | succ i =>
        simp only [zargs, List.getElem?_cons_succ] at h
        have := zargs_get ad vs (b + 2) i v h
        refine List.mem_cons_of_mem _ ?_
        simpa [zc, Value.category, Nat.add_comm, Nat.add_left_comm, Nat.add_assoc] using this
theorem zargs_len (ad : Nat → Nat) : ∀ (vs : List zV), (lg_sl (vs.map (zc ad))).length = (zargs vs).length
  | [] => rfl
  | .inl x :: vs => by
    have := zargs_len ad vs
    simp only [lg_sl, List.map_cons, List.flatMap_cons, List.length_append, zargs, List.length_cons] at this ⊢
    rw [this]; simp [zc, Value.category]; omega
  | .inr (.inr x) :: vs => by
    have := zargs_len ad vs
    simp only [lg_sl, List.map_cons, List.flatMap_cons, List.length_append, zargs, List.length_cons] at this ⊢
    rw [this]; simp [zc, Value.category]; omega
  | .inr (.inl x) :: vs => by
    have := zargs_len ad vs
    simp only [lg_sl, List.map_cons, List.flatMap_cons, List.length_append, zargs, List.length_cons] at this ⊢
    rw [this]; simp [zc, Value.category]; omega
theorem zloc_entry (ad : Nat → Nat) (vs : List zV) (n : Nat) (h : (zargs vs).length ≤ n) : zloc ad n (zfill n (zargs vs)) ((lg_sl (vs.map (zc ad)) ++ List.replicate (n - (lg_sl (vs.map (zc ad))).length) Slot.unset).toArray) := by
  have hv := lv_entry (vs.map (zc ad)) (n := n) (by rw [zargs_len]; exact h)
  refine ⟨hv.1, hv.2.1, fun i v hi => ?_⟩
  have h1 : (zargs vs)[i]? = some (some v) := by
    unfold zfill at hi
    by_cases hl : i < (zargs vs).length
    · rwa [List.getElem?_append_left hl] at hi
    · rw [List.getElem?_append_right (by omega), List.getElem?_replicate] at hi
      split at hi <;> cases hi
  have := hv.2.2 _ (zargs_get ad vs 0 i v h1)
  simpa using this
