def yconv : zE → yE
  | .inl n => .inl n
  | .inr (.inl n) => .inr (.inl n)
  | .inr (.inr o) => .inr (.inr (o.1, o.2.map (fun f => match f with
    | some q => some (some q)
    | none => none)))
theorem yW_conv {cI cJ : ClassId} {ad : Nat → Nat} {sk : List zE} {σ : zS} : yW cI cJ ad (sk.map yconv, σ) = zW cI cJ ad sk σ := by
  apply List.ext_getElem?
  intro k
  simp only [yW, zW, List.getElem?_mapIdx, List.getElem?_map]
  cases hs : sk[k]? with
  | none => rfl
  | some e =>
    simp only [Option.map_some, Option.some.injEq, Prod.mk.injEq, true_and]
    rcases e with n | n | o
    · rfl
    · rfl
    · simp only [yconv, ycell, zcell, Sum.inr.injEq, Prod.mk.injEq, true_and]
      apply List.ext_getElem?
      intro j
      simp only [yfs, zfs, List.getElem?_mapIdx, List.getElem?_map]
      cases o.2[j]? with
      | none => rfl
      | some f => cases f <;> rfl
theorem yskX_conv : yskX = skX.map yconv := rfl
theorem yskM_conv : yskM = skM.map yconv := rfl
theorem arr_known {s : State} {args : Array Value} {ty : FieldType} (hty : ∀ C, ty ≠ .object C) (h : (Cond.arrayClass ty).before args s = true) : ∃ cA, ArrOfT s cA ty ∧ va_RA s cA ty := by
  obtain ⟨c, k, comp, h1, h2, h3⟩ := Cond.arrayClass_spec h
  refine ⟨c, fun n z => ⟨fun k h => (by cases h), k, h2, comp, h3⟩, ?_⟩
  cases ty <;> first
    | exact h1
    | exact absurd rfl (hty _)
section LWS
variable {p : Program} {l : Launch} {e : Env} {s : State} {m : MethodId} {args : Array Value} {below : List Frame} {meth : Method} {c : Code} {A : Nat → Prop} {D : va_G} {cI cJ : ClassId} {Q : State → Prop}
/-- a new object of the law's, and its constructor -/
theorem lw_make {mm ci N idxN idxC a1 a2 b1 b2 c1 c2 e1 e2 pc cl0 sl0 cc nn : Nat} {y : zMeth} {bits : List Nat} {sk : List zE} {σ0 : zS} {q3 : vw_C} {H : Heap} {locs : List Loc} {ls : Array Slot} {ws : va_W}
    (hMs : ∀ (mm : Nat) (y : zMeth), yMs[mm]? = some y → ymok yMs y) (hfy : zmok zMs zI_J_fill2)
    (hfill : ∀ (d : Nat) (ad1 : Nat → Nat) (x : Int32) (τ : zS), 0 < d → zMet l D cI cJ ad1 [.inl 8] (zrm d) zI_J_fill2 [.inr (.inr 0), .inl x] τ (none, yfill τ 0 8 x))
    (hx : p.tables.exec = Jvm.exec) (hb : c.code = code) (hml : c.maxLocals = 4) (hown : s.vm.findClass R_law = some m.cls) (hts : ∀ w ∈ zTb, w.before args s = true) (hK : va_K D vwCl [(cI, .int), (cJ, .long)] s) (hN : yNk s) (hA : ∀ q : Nat, s.heap.size ≤ q → A q)
    (hrun : ycall yMs 4 mm 0 ([.inr (.inr (ci, yraw bits))], (fun _ _ => 0, fun _ _ => 0)) = some ((sk.map yconv, σ0), cc, nn)) (hy : yMs[mm]? = some y) (hq3 : vwCl[ci]? = some q3) (hN3 : q3.2.2 = N) (hcls : q3.1 = y.1.cls)
    (w1 : zwd a1 a2 (.classLink R_law idxN q3.1) = true) (w2 : zwd b1 b2 (.instantiable q3.1 q3.2.2) = true) (w3 : zwd c1 c2 (.initialized q3.1) = true) (w4 : zwd e1 e2 (.methodLink R_law idxC y.1) = true) (hbl : bits.length = N) (hbits : ybits q3.2.1 0 bits = true)
    (hcl : cl0 + 1 + cc ≤ 600000) (hsl : sl0 + N + nn ≤ 7302250) (hls : ls.size = 4)
    (d0 : decode code pc = .ok (.new idxN, 3)) (d1 : decode code (pc + 3) = .ok (.dup, 1)) (d2 : decode code (pc + 4) = .ok (.invokespecial idxC, 3))
    (hP : va_P D vwCl ws H) (hD : va_D A ws) (hS : va_S A s.heap H locs)
    (kk : ∀ (H1 : Heap) (locs1 : List Loc) (ad : Nat → Nat), va_P D vwCl ws H1 → va_P D vwCl (zW cI cJ ad sk σ0) H1 → va_D A (zW cI cJ ad sk σ0) → (∀ (k : Nat) (q : Nat × va_E), ws[k]? = some q → ∀ j, j < sk.length → q.1 ≠ ad j) → va_S A s.heap H1 locs1 →
      W p l e room_1 s m args below meth c H1 locs1 (cl0 + 1 + cc) (sl0 + N + nn) Q (F0 m (pc + 7) ls [.ref (ad 0)])) : W p l e room_1 s m args below meth c H locs cl0 sl0 Q (F0 m pc ls []) := by
  obtain ⟨hu, ty, hty, hnm⟩ := ztbl_in ci q3 hq3
  subst hN3
  refine va_new (D := D) (cl := vwCl) (C := q3.1) (T := q3.2.1) (N := q3.2.2) (ci := ci) (fs := yfs (fun _ => 0) (fun _ _ => 0, fun _ _ => 0) 0 (yraw bits)) hx hb hts hu ty hty hown (hts _ (zwd_ok w1)) (hts _ (zwd_ok w2)) (hts _ (zwd_ok w3)) hK hP hD hS hA hq3 ?_ ?_ ?_ d0 (fun q1 H1 hP1 hD1 hS1 => ?_)
  · intro j hj
    have hjb : j < bits.length := by omega
    have hbj : bits[j]? = some bits[j] := List.getElem?_eq_getElem hjb
    have hd := ybits_ok bits 0 j bits[j] (ty j) hbits hbj (by rw [Nat.zero_add]; exact hty j hj)
    have hf : (yfs (fun _ => 0) ((fun _ _ => 0, fun _ _ => 0) : zS) 0 (yraw bits))[j]? = some (if bits[j] = 0 then Value.int 0 else Value.null) := by
      rw [yfs_get (o := (match bits[j] with
        | 0 => none
        | _ => some none)) (by rw [yraw_get, hbj]; rfl)]
      cases hb0 : bits[j] with
      | zero => simp [yfv]
      | succ z => simp [yfv]
    rw [hd, vp_V, List.getD_eq_getElem?_getD, hf]
    rfl
  · show cl0 + 1 ≤ 600000
    omega
  · show sl0 + q3.2.2 ≤ 7302250
    omega
  · refine lv_dup hx hb d1 rfl ?_
    obtain ⟨y', hy', hok, hM⟩ := ycall_ok (l := l) (D := D) (cI := cI) (cJ := cJ) hMs hfy hfill 4 mm 0 _ _ hrun
    rw [hy] at hy'
    cases hy'
    obtain ⟨m1, m2, m3, m4, m5, m6, m7, m8, -, -⟩ := hok
    have hM0 := hM (fun _ => q1) H1.size
    have hwc : yW cI cJ (fun _ => q1) ([.inr (.inr (ci, yraw bits))], (fun _ _ => 0, fun _ _ => 0)) = [(q1, .inr (ci, yfs (fun _ => 0) (fun _ _ => 0, fun _ _ => 0) 0 (yraw bits)))] := by
      have : yfs (fun _ => q1) ((fun _ _ => 0, fun _ _ => 0) : zS) 0 (yraw bits) = yfs (fun _ => 0) (fun _ _ => 0, fun _ _ => 0) 0 (yraw bits) := by
        apply List.ext_getElem?
        intro j
        simp only [yfs, List.getElem?_mapIdx, yraw_get]
        cases bits[j]? with
        | none => rfl
        | some z => cases z <;> rfl
      rw [← this]
      rfl
    have hlast : (ws ++ [(q1, .inr (ci, yfs (fun _ => 0) (fun _ _ => 0, fun _ _ => 0) 0 (yraw bits)))])[ws.length]? = some (q1, .inr (ci, yfs (fun _ => 0) (fun _ _ => 0, fun _ _ => 0) 0 (yraw bits))) := by simp
    have hPc : va_P D vwCl (yW cI cJ (fun _ => q1) ([.inr (.inr (ci, yraw bits))], (fun _ _ => 0, fun _ _ => 0))) H1 := by
      rw [hwc]
      intro k2 p2 hk2
      cases k2 with
      | zero => cases hk2; exact hP1 ws.length _ hlast
      | succ k2 => simp at hk2
    have hDc : va_D (fun _ => True) (yW cI cJ (fun _ => q1) ([.inr (.inr (ci, yraw bits))], (fun _ _ => 0, fun _ _ => 0))) := by
      rw [hwc]
      refine ⟨fun i j p q hi hj _ => ?_, fun _ _ _ => trivial⟩
      cases i with
      | zero =>
        cases j with
        | zero => rfl
        | succ j => simp at hj
      | succ i => simp at hi
    have hin1 : ∀ z, va_A (yW cI cJ (fun _ => q1) ([.inr (.inr (ci, yraw bits))], (fun _ _ => 0, fun _ _ => 0))) H1.size z → z = q1 ∨ H1.size ≤ z := by
      rintro z (⟨i, w, hz⟩ | hz)
      · rw [hwc] at hz
        cases i with
        | zero => cases hz; exact Or.inl rfl
        | succ i => simp at hz
      · exact Or.inr hz
    have hF : ∀ z, va_A (yW cI cJ (fun _ => q1) ([.inr (.inr (ci, yraw bits))], (fun _ _ => 0, fun _ _ => 0))) H1.size z → A z := by
      intro z hz
      rcases hin1 z hz with rfl | hz
      · exact hD1.2 ws.length _ hlast
      · exact hA z (Nat.le_trans hS1.1 hz)
    have hgw : ∀ w ∈ (Cond.code y.1 y.2.1 y.2.2.1 none :: zTb), w ∈ zTb := fun w hw => (List.mem_cons.mp hw).elim (fun e => e ▸ m3) id
    have hgood : GoodIn zTb (Cond.code y.1 y.2.1 y.2.2.1 none :: zTb) := fun w hw => ⟨hgw w hw, ztbl_good w (hgw w hw)⟩
    have hpre : PreS s H1 (va_Pc [.ref q1] (fun U => U.heap.size = H1.size ∧ va_P D vwCl (yW cI cJ (fun _ => q1) ([.inr (.inr (ci, yraw bits))], (fun _ _ => 0, fun _ _ => 0))) U.heap ∧ va_K D vwCl [(cI, .int), (cJ, .long)] U ∧ va_D (fun _ => True) (yW cI cJ (fun _ => q1) ([.inr (.inr (ci, yraw bits))], (fun _ _ => 0, fun _ _ => 0))) ∧ yNk U)) [.ref q1] := by
      refine ⟨?_, ?_⟩
      · intro a U g mk q
        obtain ⟨q0, q1, qP, qK, qD, qN⟩ := q
        exact ⟨q0, q1, qP, va_K.moved (u := U) (U := U.calling g mk a) (Vm.Alike.refl U.vm) qK, qD, yNk.same (u := U) (U := U.calling g mk a) rfl qN⟩
      · intro U hU hW
        exact ⟨rfl, by rw [hU], by rw [hU]; exact hPc, va_K.moved hW.alike hK, hDc, yNk.warm hW hN⟩
    refine va_callv (a := (Value.ref q1 :: []).toArray) (va_runI (As := []) (b := q1) (rest := [.ref q1]) ⟨hx, hb, hml, hown, hts⟩ hM0 (cwI 0 hts hgood rfl rfl rfl (hts _ m4) (hts _ (zwd_ok w4)) (hts _ m6) m7 ⟨m2.1, m2.2, m5⟩ ⟨Nat.le_of_ble_eq_true rfl, ?_⟩) hpre rfl rfl hls rfl (lv_room (Nat.le_of_ble_eq_true rfl)) d2 ⟨?_, ?_⟩) hS1 (fun q _ h => hF q h) hF (fun u t H2 locs2 ht _ hu hB _ hk hS2 => ?_)
    · show 8 + (y.2.2.1 + 11) + 40 * 5 ≤ 84000
      omega
    · show cl0 + 1 + cc ≤ 600000
      omega
    · show sl0 + q3.2.2 + nn ≤ 7302250
      omega
    · obtain ⟨hP2, hK2, hD2⟩ := hB
      rw [ht, yW_conv] at hP2
      rw [yW_conv] at hD2
      have hu0 : u 0 = q1 := hu 0 (by simp)
      have hapart : ∀ (k : Nat) (q : Nat × va_E), ws[k]? = some q → q.1 < H1.size ∧ q.1 ≠ q1 := by
        intro k q hk
        have hl := (List.getElem?_eq_some_iff.mp hk).1
        have h1 : (ws ++ [(q1, .inr (ci, yfs (fun _ => 0) (fun _ _ => 0, fun _ _ => 0) 0 (yraw bits)))])[k]? = some q := by rw [List.getElem?_append_left hl]; exact hk
        refine ⟨(hP1 k q h1).lt, fun h => ?_⟩
        have := hD1.1 k ws.length q _ h1 hlast h
        omega
      have hz := kk H2 locs2 u ?_ hP2 (hD2.weaken (fun _ q _ h => hF q.1 h)) ?_ hS2
      · rw [hu0] at hz
        exact hz
      · intro k q hk2
        obtain ⟨g1, g2⟩ := hapart k q hk2
        have hl := (List.getElem?_eq_some_iff.mp hk2).1
        have h1 : (ws ++ [(q1, .inr (ci, yfs (fun _ => 0) (fun _ _ => 0, fun _ _ => 0) 0 (yraw bits)))])[k]? = some q := by rw [List.getElem?_append_left hl]; exact hk2
        refine (hP1 k q h1).kept (hk q.1 g1 (fun hz => ?_))
        rcases hin1 q.1 hz with hz | hz
        · exact g2 hz
        · omega
      · intro k q hk2 j hj h
        obtain ⟨g1, g2⟩ := hapart k q hk2
        have hj2 := hD2.2 j _ (zW_get (List.getElem?_eq_getElem hj))
        rcases hin1 _ hj2 with hz | hz
        · exact g2 (h.trans hz)
        · have hz' : H1.size ≤ u j := hz
          rw [h] at g1
          omega
end LWS
