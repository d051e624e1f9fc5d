section ZST
variable {p : Program} {l : Launch} {e : Env} {s : State} {m : MethodId} {args : Array Value} {below : List Frame} {meth : Method} {c : Code} {cc : ByteArray} {A : Nat → Prop} {D : va_G} {cI cJ : ClassId} {ad : Nat → Nat} {sk : List zE} {own : String} {nL : Nat} {Ms : List zMeth} {C : Nat → List zV → zS → zR} {T : zT} {rk d : Nat} {K : zK} {res : Option zV × zS} {ret0 : Option FieldType}
/-- what a place of the small machine is on the machine -/
def zAt (p : Program) (l : Launch) (e : Env) (R : Room) (s : State) (m : MethodId) (args : Array Value) (below : List Frame) (meth : Method) (c : Code) (A : Nat → Prop) (D : va_G) (cI cJ : ClassId) (ad : Nat → Nat) (sk : List zE) (nL : Nat) (Q : State → Prop) (pc : Nat) (lo : zL) (k : List zV) (σ : zS) : Prop :=
  ∀ (H : Heap) (locs : List Loc) (ls : Array Slot), va_P D vwCl (zW cI cJ ad sk σ) H → va_D A (zW cI cJ ad sk σ) → va_S A s.heap H locs → zloc ad nL lo ls → W p l e R s m args below meth c H locs 0 0 Q (F0 m pc ls (k.map (zc ad)))
theorem zfall_ok {es : zT} {pc : Nat} (h : zfall es pc = true) : ∃ e' es', es = e' :: es' ∧ e'.1 = pc := by
  unfold zfall at h
  split at h
  next e' es' => exact ⟨e', es', rfl, Nat.eq_of_beq_eq_true h⟩
  next => cases h
theorem ztgt_ok {T : zT} {a pc : Nat} {off : Int} (h : ztgt T a pc off = true) : ∃ e' es', T.drop a = e' :: es' ∧ (pc : Int) + off = (e'.1 : Int) := by
  unfold ztgt at h
  split at h
  next e' he =>
    obtain ⟨hl, he'⟩ := List.getElem?_eq_some_iff.mp he
    exact ⟨e', T.drop (a + 1), by rw [List.drop_eq_getElem_cons hl, he'], of_decide_eq_true h⟩
  next => cases h
theorem z1_inv {f : Int32 → Int32} {es : zT} {lo : zL} {k : List zV} {σ : zS} (h : z1 f K es lo k σ = some res) : ∃ x k', k = .inl x :: k' ∧ K es lo (.inl (f x) :: k') σ = some res := by
  unfold z1 at h
  split at h
  next x k' => exact ⟨x, k', rfl, h⟩
  next => cases h
theorem z2_inv {f : Int32 → Int32 → Int32} {es : zT} {lo : zL} {k : List zV} {σ : zS} (h : z2 f K es lo k σ = some res) : ∃ x y k', k = .inl y :: .inl x :: k' ∧ K es lo (.inl (f x y) :: k') σ = some res := by
  unfold z2 at h
  split at h
  next y x k' => exact ⟨x, y, k', rfl, h⟩
  next => cases h
theorem zl2_inv {f : Int64 → Int64 → Int64} {es : zT} {lo : zL} {k : List zV} {σ : zS} (h : zl2 f K es lo k σ = some res) : ∃ x y k', k = .inr (.inl y) :: .inr (.inl x) :: k' ∧ K es lo (.inr (.inl (f x y)) :: k') σ = some res := by
  unfold zl2 at h
  split at h
  next y x k' => exact ⟨x, y, k', rfl, h⟩
  next => cases h
theorem zldI_inv {i : Nat} {es : zT} {lo : zL} {k : List zV} {σ : zS} (h : zldI i K es lo k σ = some res) : ∃ x, lo[i]? = some (some (.inl x)) ∧ K es lo (.inl x :: k) σ = some res := by
  unfold zldI at h
  split at h
  next x hv => exact ⟨x, hv, h⟩
  next => cases h
theorem zldJ_inv {i : Nat} {es : zT} {lo : zL} {k : List zV} {σ : zS} (h : zldJ i K es lo k σ = some res) : ∃ x, lo[i]? = some (some (.inr (.inl x))) ∧ K es lo (.inr (.inl x) :: k) σ = some res := by
  unfold zldJ at h
  split at h
  next x hv => exact ⟨x, hv, h⟩
  next => cases h
theorem zldA_inv {i : Nat} {es : zT} {lo : zL} {k : List zV} {σ : zS} (h : zldA i K es lo k σ = some res) : ∃ x, lo[i]? = some (some (.inr (.inr x))) ∧ K es lo (.inr (.inr x) :: k) σ = some res := by
  unfold zldA at h
  split at h
  next x hv => exact ⟨x, hv, h⟩
  next => cases h
theorem zst_inv {i : Nat} {es : zT} {lo : zL} {k : List zV} {σ : zS} (h : zst i K es lo k σ = some res) : ∃ x k', k = .inl x :: k' ∧ zfree lo i = true ∧ K es (lo.set i (some (.inl x))) k' σ = some res := by
  unfold zst at h
  split at h
  next x k' =>
    split at h
    next hf => exact ⟨x, k', rfl, hf, h⟩
    next => cases h
  next => cases h
theorem zinc_inv {i : Nat} {v : Int32} {es : zT} {lo : zL} {k : List zV} {σ : zS} (h : zinc i v K es lo k σ = some res) : ∃ x, lo[i]? = some (some (.inl x)) ∧ zfree lo i = true ∧ K es (lo.set i (some (.inl (x + v)))) k σ = some res := by
  unfold zinc at h
  split at h
  next x hx =>
    split at h
    next hf => exact ⟨x, hx, hf, h⟩
    next => cases h
  next => cases h
theorem zif1_inv {c : Int32 → Prop} [DecidablePred c] {T : zT} {aux : List Nat} {es : zT} {lo : zL} {k : List zV} {σ : zS} (h : zif1 c T aux K es lo k σ = some res) : ∃ x k' a as, k = .inl x :: k' ∧ aux = a :: as ∧ (c x → K (T.drop a) lo k' σ = some res) ∧ (¬ c x → K es lo k' σ = some res) := by
  unfold zif1 at h
  split at h
  next x k' a as => exact ⟨x, k', a, as, rfl, rfl, fun hc => by rwa [if_pos hc] at h, fun hc => by rwa [if_neg hc] at h⟩
  next => cases h
theorem zif2_inv {c : Int32 → Int32 → Prop} [∀ x y, Decidable (c x y)] {T : zT} {aux : List Nat} {es : zT} {lo : zL} {k : List zV} {σ : zS} (h : zif2 c T aux K es lo k σ = some res) : ∃ x y k' a as, k = .inl y :: .inl x :: k' ∧ aux = a :: as ∧ (c x y → K (T.drop a) lo k' σ = some res) ∧ (¬ c x y → K es lo k' σ = some res) := by
  unfold zif2 at h
  split at h
  next y x k' a as => exact ⟨x, y, k', a, as, rfl, rfl, fun hc => by rwa [if_pos hc] at h, fun hc => by rwa [if_neg hc] at h⟩
  next => cases h
theorem zin_inv {i : Int32} {n : Nat} {r : zR} (h : zin i n r = some res) : vp_in i n ∧ r = some res := by
  unfold zin at h
  split at h
  next => cases h
  next hc => exact ⟨hc, h⟩
theorem zne_inv {y : Int32} {r : zR} (h : zne y r = some res) : ¬ y = 0 ∧ r = some res := by
  unfold zne at h
  split at h
  next => cases h
  next hc => exact ⟨hc, h⟩
theorem zbo_inv {y : Int32} {r : zR} (h : zbo y r = some res) : (y = 0 ∨ y = 1) ∧ r = some res := by
  unfold zbo at h
  split at h
  next hc => exact ⟨hc, h⟩
  next => cases h
theorem zgetf_inv {aux : List Nat} {es : zT} {lo : zL} {k : List zV} {σ : zS} (h : zgetf sk K aux es lo k σ = some res) : ∃ q k' ci j as fs o, k = .inr (.inr q) :: k' ∧ aux = ci :: j :: as ∧ sk[q]? = some (.inr (.inr (ci, fs))) ∧ fs[j]? = some o ∧ K es lo ((match o with
    | none => .inl (zg σ q j)
    | some r => .inr (.inr r)) :: k') σ = some res := by
  unfold zgetf at h
  split at h
  next q k' ci j as =>
    split at h
    next c fs hq =>
      split at h
      next hc =>
        have := Nat.eq_of_beq_eq_true hc
        subst this
        split at h
        next hj => exact ⟨q, k', _, j, as, fs, none, rfl, rfl, hq, hj, h⟩
        next r hj => exact ⟨q, k', _, j, as, fs, some r, rfl, rfl, hq, hj, h⟩
        next => cases h
      next => cases h
    next => cases h
  next => cases h
theorem zputf_inv {aux : List Nat} {es : zT} {lo : zL} {k : List zV} {σ : zS} (h : zputf sk K aux es lo k σ = some res) : ∃ x q k' ci j b as fs, k = .inl x :: .inr (.inr q) :: k' ∧ aux = ci :: j :: b :: as ∧ sk[q]? = some (.inr (.inr (ci, fs))) ∧ fs[j]? = some none ∧ (b = 0 ∨ (x = 0 ∨ x = 1)) ∧ K es lo k' (zs σ q j x) = some res := by
  unfold zputf at h
  split at h
  next x q k' ci j b as =>
    split at h
    next c fs hq =>
      split at h
      next hc =>
        have := Nat.eq_of_beq_eq_true hc
        subst this
        split at h
        next hj =>
          split at h
          next => exact ⟨x, q, k', _, j, 0, as, fs, rfl, rfl, hq, hj, Or.inl rfl, h⟩
          next => exact ⟨x, q, k', _, j, b, as, fs, rfl, rfl, hq, hj, Or.inr (zbo_inv h).1, (zbo_inv h).2⟩
        next => cases h
      next => cases h
    next => cases h
  next => cases h
theorem ziald_inv {es : zT} {lo : zL} {k : List zV} {σ : zS} (h : ziald sk K es lo k σ = some res) : ∃ i q k' n, k = .inl i :: .inr (.inr q) :: k' ∧ sk[q]? = some (.inl n) ∧ vp_in i n ∧ K es lo (.inl (zg σ q i.toNatClampNeg) :: k') σ = some res := by
  unfold ziald at h
  split at h
  next i q k' =>
    split at h
    next n hq => exact ⟨i, q, k', n, rfl, hq, (zin_inv h).1, (zin_inv h).2⟩
    next => cases h
  next => cases h
theorem ziast_inv {es : zT} {lo : zL} {k : List zV} {σ : zS} (h : ziast sk K es lo k σ = some res) : ∃ x i q k' n, k = .inl x :: .inl i :: .inr (.inr q) :: k' ∧ sk[q]? = some (.inl n) ∧ vp_in i n ∧ K es lo k' (zs σ q i.toNatClampNeg x) = some res := by
  unfold ziast at h
  split at h
  next x i q k' =>
    split at h
    next n hq => exact ⟨x, i, q, k', n, rfl, hq, (zin_inv h).1, (zin_inv h).2⟩
    next => cases h
  next => cases h
theorem zlald_inv {es : zT} {lo : zL} {k : List zV} {σ : zS} (h : zlald sk K es lo k σ = some res) : ∃ i q k' n, k = .inl i :: .inr (.inr q) :: k' ∧ sk[q]? = some (.inr (.inl n)) ∧ vp_in i n ∧ K es lo (.inr (.inl (zgl σ q i.toNatClampNeg)) :: k') σ = some res := by
  unfold zlald at h
  split at h
  next i q k' =>
    split at h
    next n hq => exact ⟨i, q, k', n, rfl, hq, (zin_inv h).1, (zin_inv h).2⟩
    next => cases h
  next => cases h
theorem zlast_inv {es : zT} {lo : zL} {k : List zV} {σ : zS} (h : zlast sk K es lo k σ = some res) : ∃ x i q k' n, k = .inr (.inl x) :: .inl i :: .inr (.inr q) :: k' ∧ sk[q]? = some (.inr (.inl n)) ∧ vp_in i n ∧ K es lo k' (zsl σ q i.toNatClampNeg x) = some res := by
  unfold zlast at h
  split at h
  next x i q k' =>
    split at h
    next n hq => exact ⟨x, i, q, k', n, rfl, hq, (zin_inv h).1, (zin_inv h).2⟩
    next => cases h
  next => cases h
theorem zalen_inv {es : zT} {lo : zL} {k : List zV} {σ : zS} (h : zalen sk K es lo k σ = some res) : ∃ q k' n, k = .inr (.inr q) :: k' ∧ (sk[q]? = some (.inl n) ∨ sk[q]? = some (.inr (.inl n))) ∧ K es lo (.inl (Int32.ofNat n) :: k') σ = some res := by
  unfold zalen at h
  split at h
  next q k' =>
    split at h
    next n hq => exact ⟨q, k', n, rfl, Or.inl hq, h⟩
    next n hq => exact ⟨q, k', n, rfl, Or.inr hq, h⟩
    next => cases h
  next => cases h
theorem zcpin_inv {sp dp n : Int32} {n0 n1 : Nat} {r : zR} (h : zcpin sp dp n n0 n1 r = some res) : (¬ sp < 0 ∧ ¬ dp < 0 ∧ ¬ n < 0 ∧ sp.toNatClampNeg + n.toNatClampNeg ≤ n0 ∧ dp.toNatClampNeg + n.toNatClampNeg ≤ n1) ∧ r = some res := by
  unfold zcpin at h
  split at h
  next => cases h
  next hc =>
    simp only [not_or] at hc
    exact ⟨⟨hc.1, hc.2.1, hc.2.2.1, by omega, by omega⟩, h⟩
theorem zcopy_inv {es : zT} {lo : zL} {k : List zV} {σ : zS} (h : zcopy sk K es lo k σ = some res) : ∃ n dp b sp a k' n0 n1, k = .inl n :: .inl dp :: .inr (.inr b) :: .inl sp :: .inr (.inr a) :: k' ∧ ((k'.map zw).sum ≤ 8) ∧ (¬ sp < 0 ∧ ¬ dp < 0 ∧ ¬ n < 0 ∧ sp.toNatClampNeg + n.toNatClampNeg ≤ n0 ∧ dp.toNatClampNeg + n.toNatClampNeg ≤ n1) ∧
    ((sk[a]? = some (.inl n0) ∧ sk[b]? = some (.inl n1) ∧ K es lo k' (zsc σ a b sp.toNatClampNeg dp.toNatClampNeg n.toNatClampNeg) = some res) ∨ (sk[a]? = some (.inr (.inl n0)) ∧ sk[b]? = some (.inr (.inl n1)) ∧ K es lo k' (zslc σ a b sp.toNatClampNeg dp.toNatClampNeg n.toNatClampNeg) = some res)) := by
  unfold zcopy at h
  split at h
  next n dp b sp a k' =>
    split at h
    next hw =>
      split at h
      next n0 n1 h0 h1 => exact ⟨n, dp, b, sp, a, k', n0, n1, rfl, Nat.le_of_ble_eq_true hw, (zcpin_inv h).1, Or.inl ⟨h0, h1, (zcpin_inv h).2⟩⟩
      next n0 n1 h0 h1 => exact ⟨n, dp, b, sp, a, k', n0, n1, rfl, Nat.le_of_ble_eq_true hw, (zcpin_inv h).1, Or.inr ⟨h0, h1, (zcpin_inv h).2⟩⟩
      next => cases h
    next => cases h
  next => cases h
theorem zinv_inv {mm n r : Nat} {es : zT} {lo : zL} {k : List zV} {σ : zS} (h : zinv C K mm n r es lo k σ = some res) : n ≤ k.length ∧ (((k.drop n).map zw).sum ≤ 8) ∧ ∃ v σ', C mm (k.take n).reverse σ = some (v, σ') ∧
    ((r = 0 ∧ v = none ∧ K es lo (k.drop n) σ' = some res) ∨ (r = 2 ∧ ∃ x, v = some (.inr (.inl x)) ∧ K es lo (.inr (.inl x) :: k.drop n) σ' = some res) ∨ (∃ x, v = some (.inl x) ∧ K es lo (.inl x :: k.drop n) σ' = some res)) := by
  unfold zinv at h
  split at h
  next hb =>
    simp only [Bool.and_eq_true] at hb
    refine ⟨Nat.le_of_ble_eq_true hb.1, Nat.le_of_ble_eq_true hb.2, ?_⟩
    split at h
    · unfold zcV at h
      split at h
      next σ' he => exact ⟨none, σ', he, Or.inl ⟨rfl, rfl, h⟩⟩
      next => cases h
    · unfold zcJ at h
      split at h
      next x σ' he => exact ⟨_, σ', he, Or.inr (Or.inl ⟨rfl, x, rfl, h⟩)⟩
      next => cases h
    · unfold zcI at h
      split at h
      next x σ' he => exact ⟨_, σ', he, Or.inr (Or.inr ⟨x, rfl, h⟩)⟩
      next => cases h
  next => cases h
theorem zrecv_inv {ci n : Nat} {k : List zV} (h : zrecv sk ci n k = true) : ∃ q k' fs, k.drop n = .inr (.inr q) :: k' ∧ sk[q]? = some (.inr (.inr (ci, fs))) := by
  unfold zrecv at h
  split at h
  next q k' hk =>
    split at h
    next c fs hq =>
      have := Nat.eq_of_beq_eq_true h
      subst this
      exact ⟨q, k', fs, hk, hq⟩
    next => cases h
  next => cases h
theorem zw_sum (ad : Nat → Nat) (k : List zV) : ((k.map (zc ad)).map fun v => v.category).sum = (k.map zw).sum := by
  rw [List.map_map]
  congr 1
  exact List.map_congr_left fun v _ => zc_cat ad v
end ZST
