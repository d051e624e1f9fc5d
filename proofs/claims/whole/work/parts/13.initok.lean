def yfv (ad : Nat → Nat) (σ : zS) (k j : Nat) : Option (Option Nat) → Value
  | some (some q) => Value.ref (ad q)
  | some none => Value.null
  | none => Value.int (σ.1 k j)
def yfs (ad : Nat → Nat) (σ : zS) (k : Nat) (fs : List (Option (Option Nat))) : List Value := fs.mapIdx (fun j f => yfv ad σ k j f)
def ycell (cI cJ : ClassId) (ad : Nat → Nat) (σ : zS) (k : Nat) : yE → va_E
  | .inl n => .inl (cI, n, .inl (σ.1 k))
  | .inr (.inl n) => .inl (cJ, n, .inr (.inl (σ.2 k)))
  | .inr (.inr o) => .inr (o.1, yfs ad σ k o.2)
def yW (cI cJ : ClassId) (ad : Nat → Nat) (S : yS) : va_W := S.1.mapIdx (fun k e => (ad k, ycell cI cJ ad S.2 k e))
theorem yW_get {cI cJ : ClassId} {ad : Nat → Nat} {S : yS} {k : Nat} {e : yE} (h : S.1[k]? = some e) : (yW cI cJ ad S)[k]? = some (ad k, ycell cI cJ ad S.2 k e) := by
  simp [yW, List.getElem?_mapIdx, h]
theorem yW_set {cI cJ : ClassId} {ad : Nat → Nat} {S S' : yS} {q : Nat} {e e1 : yE} (h : S.1[q]? = some e) (h1 : S'.1 = S.1.set q e1) (ho : ∀ k e', k ≠ q → ycell cI cJ ad S'.2 k e' = ycell cI cJ ad S.2 k e') : (yW cI cJ ad S).set q (ad q, ycell cI cJ ad S'.2 q e1) = yW cI cJ ad S' := by
  apply List.ext_getElem?
  intro k
  have hl : q < S.1.length := (List.getElem?_eq_some_iff.mp h).1
  have h2 : S'.1[q]? = some e1 := by rw [h1, List.getElem?_set_self hl]
  by_cases hk : k = q
  · subst hk
    rw [List.getElem?_set_self (by simp [yW]; exact hl), yW_get h2]
  · rw [List.getElem?_set_ne (Ne.symm hk)]
    simp only [yW, List.getElem?_mapIdx]
    rw [h1, List.getElem?_set_ne (Ne.symm hk)]
    cases hs : S.1[k]? with
    | none => rfl
    | some e' => simp [ho k e' hk]
theorem ycell_zs {cI cJ : ClassId} {ad : Nat → Nat} {σ : zS} {q j : Nat} {v : Int32} (k : Nat) (e : yE) (h : k ≠ q) : ycell cI cJ ad (zs σ q j v) k e = ycell cI cJ ad σ k e := by
  rcases e with n | n | o
  · simp only [ycell, zs, zup_ne h]
  · rfl
  · simp only [ycell, yfs, Sum.inr.injEq, Prod.mk.injEq, true_and]
    congr 1
    funext j f
    rcases f with _ | _ | f <;> simp [yfv, zs, zup_ne h]
theorem ycell_yfill {cI cJ : ClassId} {ad : Nat → Nat} {σ : zS} {q n : Nat} {v : Int32} (k : Nat) (e : yE) (h : k ≠ q) : ycell cI cJ ad (yfill σ q n v) k e = ycell cI cJ ad σ k e := by
  have h1 : (yfill σ q n v).1 k = σ.1 k := by
    funext j
    simp [yfill, h]
  rcases e with n | n | o
  · simp only [ycell, h1]
  · rfl
  · simp only [ycell, yfs, Sum.inr.injEq, Prod.mk.injEq, true_and]
    congr 1
    funext j f
    rcases f with _ | _ | f <;> simp [yfv, h1]
theorem yfs_get {ad : Nat → Nat} {σ : zS} {k j : Nat} {fs : List (Option (Option Nat))} {o : Option (Option Nat)} (h : fs[j]? = some o) : (yfs ad σ k fs)[j]? = some (yfv ad σ k j o) := by
  simp only [yfs, List.getElem?_mapIdx, h]
  rfl
theorem yfs_seti {ad : Nat → Nat} {σ : zS} {k j : Nat} {fs : List (Option (Option Nat))} {x : Int32} (h : fs[j]? = some none) : (yfs ad σ k fs).set j (.int x) = yfs ad (zs σ k j x) k fs := by
  apply List.ext_getElem?
  intro i
  have hl : j < fs.length := (List.getElem?_eq_some_iff.mp h).1
  by_cases hk : i = j
  · subst hk
    rw [List.getElem?_set_self (by simp [yfs]; exact hl), yfs_get h]
    simp [yfv, zs, zup]
  · rw [List.getElem?_set_ne (Ne.symm hk)]
    simp only [yfs, List.getElem?_mapIdx]
    cases hs : fs[i]? with
    | none => rfl
    | some o => rcases o with _ | _ | q <;> simp [yfv, zs, zup, hk]
theorem yfs_setr {ad : Nat → Nat} {σ : zS} {k j r : Nat} {fs : List (Option (Option Nat))} {o : Option Nat} (h : fs[j]? = some (some o)) : (yfs ad σ k fs).set j (.ref (ad r)) = yfs ad σ k (fs.set j (some (some r))) := by
  apply List.ext_getElem?
  intro i
  have hl : j < fs.length := (List.getElem?_eq_some_iff.mp h).1
  by_cases hk : i = j
  · subst hk
    rw [List.getElem?_set_self (by simp [yfs]; exact hl), yfs_get (o := some (some r)) (List.getElem?_set_self hl)]
    rfl
  · rw [List.getElem?_set_ne (Ne.symm hk)]
    simp only [yfs, List.getElem?_mapIdx]
    rw [List.getElem?_set_ne (Ne.symm hk)]
theorem ycell_ad {cI cJ : ClassId} {ad ad' : Nat → Nat} {σ σ' : zS} {n k : Nat} {e : yE} (he : yinE n e = true) (ha : ∀ j, j < n → ad' j = ad j) (hs : σ'.1 k = σ.1 k) (hs2 : σ'.2 k = σ.2 k) : ycell cI cJ ad' σ' k e = ycell cI cJ ad σ k e := by
  rcases e with m | m | o
  · simp only [ycell, hs]
  · simp only [ycell, hs2]
  · simp only [ycell, Sum.inr.injEq, Prod.mk.injEq, true_and]
    apply List.ext_getElem?
    intro j
    simp only [yfs, List.getElem?_mapIdx]
    cases hf : o.2[j]? with
    | none => rfl
    | some f =>
      have := List.all_eq_true.mp he f (List.mem_of_getElem? hf)
      rcases f with _ | _ | q
      · simp [yfv, hs]
      · rfl
      · simp only [Option.map_some, yfv, ha q (Nat.blt_eq ▸ this)]
theorem yW_push {cI cJ : ClassId} {ad ad' : Nat → Nat} {S : yS} {σ' : zS} {a : Nat} {e : yE} {x : va_E} (hin : S.1.all (yinE S.1.length) = true) (ha : ∀ j, j < S.1.length → ad' j = ad j) (ha2 : ad' S.1.length = a) (hs : ∀ k, k < S.1.length → σ'.1 k = S.2.1 k ∧ σ'.2 k = S.2.2 k) (hx : x = ycell cI cJ ad' σ' S.1.length e) : yW cI cJ ad S ++ [(a, x)] = yW cI cJ ad' (S.1 ++ [e], σ') := by
  subst hx
  apply List.ext_getElem?
  intro k
  by_cases hk : k < S.1.length
  · rw [List.getElem?_append_left (by simp [yW]; exact hk)]
    simp only [yW, List.getElem?_mapIdx]
    rw [List.getElem?_append_left hk, List.getElem?_eq_getElem hk]
    simp only [Option.map_some]
    have he := List.all_eq_true.mp hin _ (List.getElem_mem hk)
    rw [ycell_ad he ha (hs k hk).1 (hs k hk).2, ha k hk]
  · rw [List.getElem?_append_right (by simp [yW]; omega)]
    simp only [yW, List.getElem?_mapIdx, List.length_mapIdx]
    rw [List.getElem?_append_right (by omega)]
    by_cases hk2 : k = S.1.length
    · subst hk2
      simp [ha2]
    · rw [List.getElem?_eq_none (by simp; omega), List.getElem?_eq_none (by simp; omega)]
      rfl
theorem yW_ad {cI cJ : ClassId} {ad ad' : Nat → Nat} {S : yS} (hin : S.1.all (yinE S.1.length) = true) (ha : ∀ j, j < S.1.length → ad' j = ad j) : yW cI cJ ad' S = yW cI cJ ad S := by
  apply List.ext_getElem?
  intro k
  simp only [yW, List.getElem?_mapIdx]
  cases hs : S.1[k]? with
  | none => rfl
  | some e =>
    have hk := (List.getElem?_eq_some_iff.mp hs).1
    have he := List.all_eq_true.mp hin _ (List.mem_of_getElem? hs)
    simp only [Option.map_some]
    rw [ycell_ad he ha rfl rfl, ha k hk]
theorem zc_ad {ad ad' : Nat → Nat} {n : Nat} {v : zV} (h : yinV n v = true) (ha : ∀ j, j < n → ad' j = ad j) : zc ad' v = zc ad v := by
  rcases v with x | x | q
  · rfl
  · rfl
  · simp only [zc, ha q (Nat.blt_eq ▸ h)]
theorem zcs_ad {ad ad' : Nat → Nat} {n : Nat} {k : List zV} (h : k.all (yinV n) = true) (ha : ∀ j, j < n → ad' j = ad j) : k.map (zc ad') = k.map (zc ad) := List.map_congr_left fun v hv => zc_ad (List.all_eq_true.mp h v hv) ha
theorem zloc_ad {ad ad' : Nat → Nat} {n nL : Nat} {lo : zL} {ls : Array Slot} (h : lo.all (yinO n) = true) (ha : ∀ j, j < n → ad' j = ad j) (hl : zloc ad nL lo ls) : zloc ad' nL lo ls := by
  refine ⟨hl.1, hl.2.1, fun i v hv => ?_⟩
  have h1 : yinO n (some v) = true := List.all_eq_true.mp h (some v) (List.mem_of_getElem? hv)
  rw [zc_ad (n := n) h1 ha]
  exact hl.2.2 i v hv
theorem yin_inv {S : yS} {lo : zL} {k : List zV} (h : yin S lo k = true) : lo.all (yinO S.1.length) = true ∧ k.all (yinV S.1.length) = true ∧ S.1.all (yinE S.1.length) = true := by
  simp only [yin, Bool.and_eq_true] at h
  exact ⟨h.1.1, h.1.2, h.2⟩
theorem ygd_inv {b : Bool} {r : yR} {x : yS × Nat × Nat} (h : ygd b r = some x) : b = true ∧ r = some x := by
  unfold ygd at h
  split at h
  · exact ⟨rfl, h⟩
  · cases h
theorem yadd_inv {c n : Nat} {r : yR} {x : yS × Nat × Nat} (h : yadd c n r = some x) : ∃ S a b, r = some (S, a, b) ∧ x = (S, c + a, n + b) := by
  unfold yadd at h
  split at h
  next r => cases h; exact ⟨_, _, _, rfl, rfl⟩
  next => cases h
