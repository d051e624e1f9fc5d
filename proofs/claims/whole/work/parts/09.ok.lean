section ZST
variable {p : Program} {l : Launch} {e : Env} {s : State} {m : MethodId} {args : Array Value} {below : List Frame} {meth : Method} {c : Code} {cc : ByteArray} {A : Nat → Prop} {D : va_G} {cI cJ : ClassId} {ad : Nat → Nat} {sk : List zE} {own : String} {nL : Nat} {Ms : List zMeth} {C : Nat → List zV → zS → zR} {T : zT} {rk d : Nat} {K : zK} {res : Option zV × zS} {ret0 : Option FieldType}
theorem zsplit {k k' : List zV} {n : Nat} {r : zV} (hk : k.drop n = r :: k') : (k.take (n + 1)).reverse = r :: (k.take n).reverse ∧ k.drop (n + 1) = k' ∧ k = k.take n ++ r :: k' := by
  have h1 : k[n]? = some r := by
    have := congrArg (fun l => l[0]?) hk
    simpa [List.getElem?_drop] using this
  refine ⟨by rw [List.take_succ, h1]; simp, ?_, ?_⟩
  · have := congrArg (List.drop 1) hk
    simpa [List.drop_drop] using this
  · rw [← hk]
    exact (List.take_append_drop n k).symm
theorem zgood_all (y : zMeth) (h : Cond.code y.1 y.2.1 y.2.2.1 y.2.2.2.1 ∈ zTb) : ∀ w ∈ (Cond.code y.1 y.2.1 y.2.2.1 y.2.2.2.1 :: zTb), w ∈ zTb := fun w hw => (List.mem_cons.mp hw).elim (fun e => e ▸ h) id
set_option maxHeartbeats 4000000 in
theorem zcallV {Q : State → Prop} {y : zMeth} {pc idx q n ci : Nat} {lo : zL} {σ : zS} {k k' : List zV} {v : Option zV} {σ' : zS} {fs : List (Option Nat)}
    (hx : p.tables.exec = Jvm.exec) (hb : c.code = cc) (hml : c.maxLocals = nL) (hown : s.vm.findClass own = some m.cls) (hts : ∀ w ∈ zTb, w.before args s = true) (hK : va_K D vwCl [(cI, .int), (cJ, .long)] s) (hN : zNk s) (hA : ∀ q : Nat, s.heap.size ≤ q → A q)
    (hy : zmok Ms y) (hM : zMet l D cI cJ ad sk (zrm d) y (k.take (n + 1)).reverse σ (v, σ')) (hn : n + 1 ≤ k.length) (hk : k.drop n = .inr (.inr q) :: k') (hq : sk[q]? = some (.inr (.inr (ci, fs)))) (hci : (vwCl[ci]?).map (fun q => q.1) = some y.1.cls) (hnp : y.2.2.2.2.1 = n) (hst : y.2.2.2.2.2.1 = false) (hlink : Cond.methodLink own idx y.1 ∈ zTb)
    (hdec : decode cc pc = .ok (.invokevirtual idx, 3)) (hsum : ((k.drop (n + 1)).map zw).sum ≤ 8)
    (hgo : zAt p l e (zrm (d + 1)) s m args below meth c A D cI cJ ad sk nL Q (pc + 3) lo (v.toList ++ k.drop (n + 1)) σ') : zAt p l e (zrm (d + 1)) s m args below meth c A D cI cJ ad sk nL Q pc lo k σ := by
  intro H locs ls hP hD hS hl
  obtain ⟨s1, s2, s3⟩ := zsplit hk
  obtain ⟨m1, m2, m3, m4, m5, m6, m7, m8, -, -, -⟩ := hy
  rw [if_neg (by rw [hst]; decide)] at m6
  obtain ⟨q3, hq3, he3⟩ := Option.map_eq_some_iff.mp hci
  have hM0 := hM H.size
  rw [s1] at hM0
  have hgw : ∀ w ∈ wsV own idx y.1.cls y.1 (Cond.code y.1 y.2.1 y.2.2.1 y.2.2.2.1 :: zTb), w ∈ zTb := by
    intro w hw
    unfold wsV at hw
    rcases List.mem_append.mp hw with h | h
    · simp only [List.mem_cons, List.not_mem_nil, or_false] at h
      rcases h with rfl | rfl | rfl | rfl
      · exact hlink
      · exact m6.1
      · exact m6.2
      · exact m4
    · exact zgood_all y m3 w h
  refine zcall_k (rest := k.drop (n + 1)) (k := k) (av := (Value.ref (ad q) :: ((k.take n).reverse).map (zc ad)).toArray) hK hA hP hD hS hl ?_ hgo
  refine va_runV (C := y.1.cls) (As := ((k.take n).reverse).map (zc ad)) (b := ad q) (n := n) (mc := 0) (ms := 0) ⟨hx, hb, hml, hown, hts⟩ hM0 (cwV n hts (fun w hw => ⟨hgw w hw, ztbl_good w (hgw w hw)⟩) rfl rfl rfl ⟨rfl, m2.1, m2.2, by rw [m5, hnp]⟩ ⟨Nat.le_refl _, ?_⟩) ⟨?_, ?_, ?_⟩ rfl ?_ hl.1 ?_ (lv_room (by rw [zw_sum]; exact hsum)) hdec ⟨Nat.zero_le _, Nat.zero_le _⟩
  · show 8 + (y.2.2.1 + 11) + 40 * d ≤ 40 * (d + 1)
    omega
  · intro a U g mk q
    obtain ⟨q0, q1, qP, qK, qD, qN⟩ := q
    exact ⟨q0, q1, qP, va_K.moved (u := U) (U := U.calling g mk a) (Vm.Alike.refl U.vm) qK, qD, va_Nw.same (u := U) (U := U.calling g mk a) rfl rfl qN⟩
  · rw [← he3]
    exact va_recv hK hP hq3 (zW_get hq)
  · intro U hU hW
    exact ⟨rfl, by rw [hU], by rw [hU]; exact hP, va_K.moved hW.alike hK, hD.weaken (fun _ _ _ _ => trivial), zNk.warm hW hN⟩
  · simp only [List.length_map, List.length_reverse, List.length_take]
    omega
  · show k.map (zc ad) = _
    conv => lhs; rw [s3]
    rw [s2, List.map_append, List.map_reverse, List.reverse_reverse]
    rfl
set_option maxHeartbeats 4000000 in
theorem zcallS {Q : State → Prop} {y : zMeth} {pc idx n z : Nat} {lo : zL} {σ : zS} {k : List zV} {v : Option zV} {σ' : zS}
    (hx : p.tables.exec = Jvm.exec) (hb : c.code = cc) (hml : c.maxLocals = nL) (hown : s.vm.findClass own = some m.cls) (hts : ∀ w ∈ zTb, w.before args s = true) (hK : va_K D vwCl [(cI, .int), (cJ, .long)] s) (hN : zNk s) (hA : ∀ q : Nat, s.heap.size ≤ q → A q)
    (hy : zmok Ms y) (hM : zMet l D cI cJ ad sk (zrm d) y (k.take n).reverse σ (v, σ')) (hn : n ≤ k.length) (hnp : y.2.2.2.2.1 = n) (hst : y.2.2.2.2.2.1 = true) (hlink : if z = 0 then Cond.methodLink own idx y.1 ∈ zTb else Cond.methodLinkNest own idx y.1 "ProtoOrders" = zNw)
    (hdec : decode cc pc = .ok (.invokestatic idx, 3)) (hsum : ((k.drop n).map zw).sum ≤ 8)
    (hgo : zAt p l e (zrm (d + 1)) s m args below meth c A D cI cJ ad sk nL Q (pc + 3) lo (v.toList ++ k.drop n) σ') : zAt p l e (zrm (d + 1)) s m args below meth c A D cI cJ ad sk nL Q pc lo k σ := by
  intro H locs ls hP hD hS hl
  obtain ⟨m1, m2, m3, m4, m5, m6, m7, m8, -, -, -⟩ := hy
  rw [if_pos hst] at m6
  have hM0 := hM H.size
  have hpre : PreS s H (va_Pc (((k.take n).reverse).map (zc ad)) (fun U => U.heap.size = H.size ∧ va_P D vwCl (zW cI cJ ad sk σ) U.heap ∧ va_K D vwCl [(cI, .int), (cJ, .long)] U ∧ va_D (fun _ => True) (zW cI cJ ad sk σ) ∧ zNk U)) (((k.take n).reverse).map (zc ad)) := by
    refine ⟨?_, ?_⟩
    · intro a U g mk q
      obtain ⟨q0, q1, qP, qK, qD, qN⟩ := q
      exact ⟨q0, q1, qP, va_K.moved (u := U) (U := U.calling g mk a) (Vm.Alike.refl U.vm) qK, qD, va_Nw.same (u := U) (U := U.calling g mk a) rfl rfl qN⟩
    · intro U hU hW
      exact ⟨rfl, by rw [hU], by rw [hU]; exact hP, va_K.moved hW.alike hK, hD.weaken (fun _ _ _ _ => trivial), zNk.warm hW hN⟩
  have hlen : (((k.take n).reverse).map (zc ad)).length = n := by
    simp only [List.length_map, List.length_reverse, List.length_take]
    omega
  have hstack : k.map (zc ad) = (((k.take n).reverse).map (zc ad)).reverse ++ (k.drop n).map (zc ad) := by
    rw [List.map_reverse, List.reverse_reverse, ← List.map_append, List.take_append_drop]
  have hroom : 8 + (y.2.2.1 + 11) + 40 * d ≤ 40 * (d + 1) := by omega
  have hgood : GoodIn zTb (Cond.code y.1 y.2.1 y.2.2.1 y.2.2.2.1 :: zTb) := fun w hw => ⟨zgood_all y m3 w hw, ztbl_good w (zgood_all y m3 w hw)⟩
  refine zcall_k (rest := k.drop n) (k := k) (av := (((k.take n).reverse).map (zc ad)).toArray) hK hA hP hD hS hl ?_ hgo
  by_cases hz : z = 0
  · rw [if_pos hz] at hlink
    have hgw : ∀ w ∈ va_wsS own idx y.1 (Cond.code y.1 y.2.1 y.2.2.1 y.2.2.2.1 :: zTb), w ∈ zTb := by
      intro w hw
      unfold va_wsS at hw
      rcases List.mem_append.mp hw with h | h
      · simp only [List.mem_cons, List.not_mem_nil, or_false] at h
        rcases h with rfl | rfl | rfl
        · exact hlink
        · exact m6
        · exact m4
      · exact zgood_all y m3 w h
    exact va_runS (As := ((k.take n).reverse).map (zc ad)) (n := n) (mc := 0) (ms := 0) ⟨hx, hb, hml, hown, hts⟩ hM0 (va_cwS n hts (fun w hw => ⟨hgw w hw, ztbl_good w (hgw w hw)⟩) rfl rfl rfl ⟨m2.1, m2.2, by rw [m5, hnp]⟩ ⟨Nat.le_refl _, hroom⟩) hpre rfl hlen hl.1 hstack (lv_room (by rw [zw_sum]; exact hsum)) hdec ⟨Nat.zero_le _, Nat.zero_le _⟩
  · rw [if_neg hz] at hlink
    exact va_runSN (host := "ProtoOrders") (As := ((k.take n).reverse).map (zc ad)) (n := n) (mc := 0) (ms := 0) ⟨hx, hb, hml, hown, hts⟩ hM0 ⟨va_cnB n hts hgood rfl rfl rfl (hlink ▸ hN) (hts _ m4) ⟨m2.1, m2.2, by rw [m5, hnp]⟩ ⟨Nat.le_refl _, hroom⟩, hts _ m6, trivial⟩ hpre rfl hlen hl.1 hstack (lv_room (by rw [zw_sum]; exact hsum)) hdec ⟨Nat.zero_le _, Nat.zero_le _⟩
/-- the switch: outside, or at its j-th place -/
theorem zsw_inv {x : Int32} {pc : Nat} {lo : zL} {k : List zV} {σ : zS} {dd : Nat} : ∀ (offs : List Int) (as : List Nat) (v : Int32) (j0 : Nat), (-1000 ≤ v.toInt ∧ v.toInt + offs.length ≤ 1001) → ztgts T pc as offs = true → zsw x v T K lo k σ dd as = some res →
    ((∀ j : Nat, j < offs.length → x.toInt ≠ v.toInt + j) ∧ K (T.drop dd) lo k σ = some res) ∨ ∃ (j : Nat) (off : Int) (a : Nat), offs[j]? = some off ∧ x.toInt = v.toInt + j ∧ ztgt T a pc off = true ∧ K (T.drop a) lo k σ = some res
  | [], [], v, j0, hv, ht, h => Or.inl ⟨fun j hj => absurd hj (Nat.not_lt_zero j), h⟩
  | [], _ :: _, v, j0, hv, ht, h => by simp [ztgts] at ht
  | _ :: _, [], v, j0, hv, ht, h => by simp [ztgts] at ht
  | o :: offs, a :: as, v, j0, hv, ht, h => by
    simp only [ztgts, Bool.and_eq_true] at ht
    simp only [zsw] at h
    by_cases hx : x = v
    · rw [if_pos hx] at h
      exact Or.inr ⟨0, o, a, rfl, by rw [hx]; simp, ht.1, h⟩
    · rw [if_neg hx] at h
      simp only [List.length_cons] at hv
      have hv1 : (v + 1).toInt = v.toInt + 1 := by
        rw [Int32.toInt_add]
        have : (1 : Int32).toInt = 1 := by decide
        rw [this]
        apply Int.bmod_eq_of_le <;> omega
      rcases zsw_inv offs as (v + 1) j0 (by omega) ht.2 h with ⟨h1, h2⟩ | ⟨j, off, a', h1, h2, h3, h4⟩
      · refine Or.inl ⟨fun j hj => ?_, h2⟩
        cases j with
        | zero =>
          intro hc
          exact hx (Int32.toInt_inj.mp (by simpa using hc))
        | succ j =>
          have := h1 j (by simpa using hj)
          rw [hv1] at this
          intro hc
          apply this
          omega
      · exact Or.inr ⟨j + 1, off, a', h1, by rw [h2, hv1]; omega, h3, h4⟩
set_option maxHeartbeats 20000000 in
set_option maxRecDepth 100000 in
theorem zstep_ok {i : Instr} {v : Int32} {w : Int64} {aux : List Nat} {es : zT} {pc : Nat} {lo : zL} {k : List zV} {σ : zS}
    (hx : p.tables.exec = Jvm.exec) (hb : c.code = cc) (hr : meth.sig.returnType = ret0) (hret : ret0 = (match rk with
      | 0 => none
      | 1 => some .int
      | 2 => some .long
      | _ => some .boolean)) (hml : c.maxLocals = nL) (hown : s.vm.findClass own = some m.cls) (hts : ∀ w ∈ zTb, w.before args s = true) (hlocks : meth.locks = false) (hK : va_K D vwCl [(cI, .int), (cJ, .long)] s) (hN : zNk s) (hA : ∀ q : Nat, s.heap.size ≤ q → A q)
    (hC : ∀ mm as τ r', C mm as τ = some r' → ∃ y, Ms[mm]? = some y ∧ zmok Ms y ∧ zMet l D cI cJ ad sk (zrm d) y as τ r')
    (hgo : ∀ (e' : zEnt) (es' : zT) (lo' : zL) (k' : List zV) (σ' : zS), (es = e' :: es' ∨ ∃ a, T.drop a = e' :: es') → K (e' :: es') lo' k' σ' = some res → zAt p l e (zrm (d + 1)) s m args below meth c A D cI cJ ad sk nL (MQ below (zQ D cI cJ ad sk res A) args s 0 0 A) e'.1 lo' k' σ')
    (hs : zspec Ms own cc nL T pc i v w aux es = true) (h : zstep sk C T rk K i v w aux es lo k σ = some res) : zAt p l e (zrm (d + 1)) s m args below meth c A D cI cJ ad sk nL (MQ below (zQ D cI cJ ad sk res A) args s 0 0 A) pc lo k σ := by
  have fall : ∀ {pc' : Nat} {lo' : zL} {k' : List zV} {σ' : zS}, zfall es pc' = true → K es lo' k' σ' = some res → zAt p l e (zrm (d + 1)) s m args below meth c A D cI cJ ad sk nL (MQ below (zQ D cI cJ ad sk res A) args s 0 0 A) pc' lo' k' σ' := by
    intro pc' lo' k' σ' hf hk
    obtain ⟨e', es', he, hpc⟩ := zfall_ok hf
    rw [← hpc]
    exact hgo e' es' lo' k' σ' (Or.inl he) (he ▸ hk)
  have jump : ∀ {a : Nat} {off : Int}, ztgt T a pc off = true → ∃ tgt : Nat, (pc : Int) + off = (tgt : Int) ∧ ∀ {lo' : zL} {k' : List zV} {σ' : zS}, K (T.drop a) lo' k' σ' = some res → zAt p l e (zrm (d + 1)) s m args below meth c A D cI cJ ad sk nL (MQ below (zQ D cI cJ ad sk res A) args s 0 0 A) tgt lo' k' σ' := by
    intro a off ht
    obtain ⟨e', es', he, hpc⟩ := ztgt_ok ht
    exact ⟨e'.1, hpc, fun {lo' k' σ'} hk => hgo e' es' lo' k' σ' (Or.inr ⟨a, he⟩) (he ▸ hk)⟩
  cases i with
  | iconst n =>
    simp only [zspec, Bool.and_eq_true, decide_eq_true_eq] at hs
    intro H locs ls hP hD hS hl
    exact lv_iconst hx hb (zdec_ok hs.1.1) hs.2 (fall hs.1.2 h H locs ls hP hD hS hl)
  | bipush n =>
    simp only [zspec, Bool.and_eq_true, decide_eq_true_eq] at hs
    intro H locs ls hP hD hS hl
    exact lv_bipush hx hb (zdec_ok hs.1.1) hs.2 (fall hs.1.2 h H locs ls hP hD hS hl)
  | sipush n =>
    simp only [zspec, Bool.and_eq_true, decide_eq_true_eq] at hs
    intro H locs ls hP hD hS hl
    exact lv_sipush hx hb (zdec_ok hs.1.1) hs.2 (fall hs.1.2 h H locs ls hP hD hS hl)
  | lconst n =>
    simp only [zspec, Bool.and_eq_true, decide_eq_true_eq] at hs
    intro H locs ls hP hD hS hl
    exact lv_lconst hx hb (zdec_ok hs.1.1) hs.2 (fall hs.1.2 h H locs ls hP hD hS hl)
  | ldc x =>
    simp only [zspec, Bool.and_eq_true, decide_eq_true_eq] at hs
    obtain ⟨⟨h1, h2⟩, h3⟩ := hs
    split at h3
    · intro H locs ls hP hD hS hl
      exact lv_ldc hx hb hown (hts _ (zwd_ok h3)) (zdec_ok h1) (fall h2 h H locs ls hP hD hS hl)
    · cases h3
  | ldc_w x =>
    simp only [zspec, Bool.and_eq_true, decide_eq_true_eq] at hs
    obtain ⟨⟨h1, h2⟩, h3⟩ := hs
    split at h3
    · intro H locs ls hP hD hS hl
      exact lv_ldcw hx hb hown (hts _ (zwd_ok h3)) (zdec_ok h1) (fall h2 h H locs ls hP hD hS hl)
    · cases h3
  | ldc2_w x =>
    simp only [zspec, Bool.and_eq_true, decide_eq_true_eq] at hs
    obtain ⟨⟨h1, h2⟩, h3⟩ := hs
    split at h3
    · intro H locs ls hP hD hS hl
      exact lv_ldc2 hx hb hown (hts _ (zwd_ok h3)) (zdec_ok h1) (fall h2 h H locs ls hP hD hS hl)
    · cases h3
  | iload_n i0 =>
    simp only [zspec, Bool.and_eq_true, decide_eq_true_eq] at hs
    obtain ⟨x, hx1, h1⟩ := zldI_inv (K := K) h
    intro H locs ls hP hD hS hl
    exact lv_iload_n hx hb (zdec_ok hs.1) rfl (hl.2.2 _ _ hx1) (fall hs.2 h1 H locs ls hP hD hS hl)
  | iload i0 =>
    simp only [zspec, Bool.and_eq_true, decide_eq_true_eq] at hs
    obtain ⟨x, hx1, h1⟩ := zldI_inv (K := K) h
    intro H locs ls hP hD hS hl
    exact lv_iload hx hb (zdec_ok hs.1) (hl.2.2 _ _ hx1) (fall hs.2 h1 H locs ls hP hD hS hl)
  | aload_n i0 =>
    simp only [zspec, Bool.and_eq_true, decide_eq_true_eq] at hs
    obtain ⟨x, hx1, h1⟩ := zldA_inv (K := K) h
    intro H locs ls hP hD hS hl
    exact lv_aload_n hx hb (zdec_ok hs.1) rfl (hl.2.2 _ _ hx1) (fall hs.2 h1 H locs ls hP hD hS hl)
  | aload i0 =>
    simp only [zspec, Bool.and_eq_true, decide_eq_true_eq] at hs
    obtain ⟨x, hx1, h1⟩ := zldA_inv (K := K) h
    intro H locs ls hP hD hS hl
    exact lv_aload hx hb (zdec_ok hs.1) (hl.2.2 _ _ hx1) (fall hs.2 h1 H locs ls hP hD hS hl)
  | lload_n i0 =>
    simp only [zspec, Bool.and_eq_true, decide_eq_true_eq] at hs
    obtain ⟨x, hx1, h1⟩ := zldJ_inv (K := K) h
    intro H locs ls hP hD hS hl
    exact lv_lload_n hx hb (zdec_ok hs.1) rfl (hl.2.2 _ _ hx1) (fall hs.2 h1 H locs ls hP hD hS hl)
  | lload i0 =>
    simp only [zspec, Bool.and_eq_true, decide_eq_true_eq] at hs
    obtain ⟨x, hx1, h1⟩ := zldJ_inv (K := K) h
    intro H locs ls hP hD hS hl
    exact lv_lload hx hb (zdec_ok hs.1) (hl.2.2 _ _ hx1) (fall hs.2 h1 H locs ls hP hD hS hl)
  | istore_n i0 =>
    simp only [zspec, Bool.and_eq_true, decide_eq_true_eq] at hs
    obtain ⟨x, k', rfl, hf, h1⟩ := zst_inv (K := K) h
    intro H locs ls hP hD hS hl
    exact lv_istore_n hx hb (zdec_ok hs.1.1) rfl hl.has hs.2 rfl (fun ls' hl' => fall hs.1.2 h1 H locs ls' hP hD hS (zloc_set hl hf hl'))
  | istore i0 =>
    simp only [zspec, Bool.and_eq_true, decide_eq_true_eq] at hs
    obtain ⟨x, k', rfl, hf, h1⟩ := zst_inv (K := K) h
    intro H locs ls hP hD hS hl
    exact lv_istore hx hb (zdec_ok hs.1.1) hl.has hs.2 rfl (fun ls' hl' => fall hs.1.2 h1 H locs ls' hP hD hS (zloc_set hl hf hl'))
  | iinc i0 n =>
    simp only [zspec, Bool.and_eq_true, decide_eq_true_eq] at hs
    obtain ⟨x, hx1, hf, h1⟩ := zinc_inv (K := K) h
    intro H locs ls hP hD hS hl
    obtain ⟨j, hj⟩ := List.getElem?_of_mem (zas_mem (ad := ad).mpr ⟨_, hx1, rfl⟩ : ((i0, zc ad (.inl x)) : Nat × Value) ∈ zas ad lo)
    exact lv_iinc (v := x + v) hx hb (zdec_ok hs.1.1.1) hl.has (k := j) hj (by rw [hs.1.2]) hs.2 rfl (fun ls' hl' => fall hs.1.1.2 h1 H locs ls' hP hD hS (zloc_set hl hf hl'))
  | iadd =>
    simp only [zspec, Bool.and_eq_true, decide_eq_true_eq] at hs
    obtain ⟨x, y, k', rfl, h1⟩ := z2_inv (K := K) h
    intro H locs ls hP hD hS hl
    exact lv_iadd hx hb (zdec_ok hs.1) (fall hs.2 h1 H locs ls hP hD hS hl)
  | isub =>
    simp only [zspec, Bool.and_eq_true, decide_eq_true_eq] at hs
    obtain ⟨x, y, k', rfl, h1⟩ := z2_inv (K := K) h
    intro H locs ls hP hD hS hl
    exact lv_isub hx hb (zdec_ok hs.1) (fall hs.2 h1 H locs ls hP hD hS hl)
  | imul =>
    simp only [zspec, Bool.and_eq_true, decide_eq_true_eq] at hs
    obtain ⟨x, y, k', rfl, h1⟩ := z2_inv (K := K) h
    intro H locs ls hP hD hS hl
    exact lv_imul hx hb (zdec_ok hs.1) (fall hs.2 h1 H locs ls hP hD hS hl)
  | iand =>
    simp only [zspec, Bool.and_eq_true, decide_eq_true_eq] at hs
    obtain ⟨x, y, k', rfl, h1⟩ := z2_inv (K := K) h
    intro H locs ls hP hD hS hl
    exact lv_iand hx hb (zdec_ok hs.1) (fall hs.2 h1 H locs ls hP hD hS hl)
  | ior =>
    simp only [zspec, Bool.and_eq_true, decide_eq_true_eq] at hs
    obtain ⟨x, y, k', rfl, h1⟩ := z2_inv (K := K) h
    intro H locs ls hP hD hS hl
    exact lv_ior hx hb (zdec_ok hs.1) (fall hs.2 h1 H locs ls hP hD hS hl)
  | ixor =>
    simp only [zspec, Bool.and_eq_true, decide_eq_true_eq] at hs
    obtain ⟨x, y, k', rfl, h1⟩ := z2_inv (K := K) h
    intro H locs ls hP hD hS hl
    exact lv_ixor hx hb (zdec_ok hs.1) (fall hs.2 h1 H locs ls hP hD hS hl)
  | ishl =>
    simp only [zspec, Bool.and_eq_true, decide_eq_true_eq] at hs
    obtain ⟨x, y, k', rfl, h1⟩ := z2_inv (K := K) h
    intro H locs ls hP hD hS hl
    exact lv_ishl hx hb (zdec_ok hs.1) (fall hs.2 h1 H locs ls hP hD hS hl)
  | ishr =>
    simp only [zspec, Bool.and_eq_true, decide_eq_true_eq] at hs
    obtain ⟨x, y, k', rfl, h1⟩ := z2_inv (K := K) h
    intro H locs ls hP hD hS hl
    exact lv_ishr hx hb (zdec_ok hs.1) (fall hs.2 h1 H locs ls hP hD hS hl)
  | iushr =>
    simp only [zspec, Bool.and_eq_true, decide_eq_true_eq] at hs
    obtain ⟨x, y, k', rfl, h1⟩ := z2_inv (K := K) h
    intro H locs ls hP hD hS hl
    exact lv_iushr hx hb (zdec_ok hs.1) rfl (fall hs.2 h1 H locs ls hP hD hS hl)
  | ineg =>
    simp only [zspec, Bool.and_eq_true, decide_eq_true_eq] at hs
    obtain ⟨x, k', rfl, h1⟩ := z1_inv (K := K) h
    intro H locs ls hP hD hS hl
    exact lv_ineg hx hb (zdec_ok hs.1) (fall hs.2 h1 H locs ls hP hD hS hl)
  | i2b =>
    simp only [zspec, Bool.and_eq_true, decide_eq_true_eq] at hs
    obtain ⟨x, k', rfl, h1⟩ := z1_inv (K := K) h
    intro H locs ls hP hD hS hl
    exact lv_i2b hx hb (zdec_ok hs.1) rfl (fall hs.2 h1 H locs ls hP hD hS hl)
  | i2s =>
    simp only [zspec, Bool.and_eq_true, decide_eq_true_eq] at hs
    obtain ⟨x, k', rfl, h1⟩ := z1_inv (K := K) h
    intro H locs ls hP hD hS hl
    exact lv_i2s hx hb (zdec_ok hs.1) rfl (fall hs.2 h1 H locs ls hP hD hS hl)
  | ladd =>
    simp only [zspec, Bool.and_eq_true, decide_eq_true_eq] at hs
    obtain ⟨x, y, k', rfl, h1⟩ := zl2_inv (K := K) h
    intro H locs ls hP hD hS hl
    exact lv_ladd hx hb (zdec_ok hs.1) (fall hs.2 h1 H locs ls hP hD hS hl)
  | lmul =>
    simp only [zspec, Bool.and_eq_true, decide_eq_true_eq] at hs
    obtain ⟨x, y, k', rfl, h1⟩ := zl2_inv (K := K) h
    intro H locs ls hP hD hS hl
    exact lv_lmul hx hb (zdec_ok hs.1) (fall hs.2 h1 H locs ls hP hD hS hl)
  | irem =>
    simp only [zspec, Bool.and_eq_true, decide_eq_true_eq] at hs
    simp only [zstep] at h
    split at h
    · obtain ⟨hne, h1⟩ := zne_inv h
      intro H locs ls hP hD hS hl
      exact lv_irem hx hb (zdec_ok hs.1) hne (fall hs.2 h1 H locs ls hP hD hS hl)
    · cases h
  | i2l =>
    simp only [zspec, Bool.and_eq_true, decide_eq_true_eq] at hs
    simp only [zstep] at h
    split at h
    · intro H locs ls hP hD hS hl
      exact lv_i2l hx hb (zdec_ok hs.1) rfl (fall hs.2 h H locs ls hP hD hS hl)
    · cases h
  | l2i =>
    simp only [zspec, Bool.and_eq_true, decide_eq_true_eq] at hs
    simp only [zstep] at h
    split at h
    · intro H locs ls hP hD hS hl
      exact lv_l2i hx hb (zdec_ok hs.1) rfl (fall hs.2 h H locs ls hP hD hS hl)
    · cases h
  | lcmp =>
    simp only [zspec, Bool.and_eq_true, decide_eq_true_eq] at hs
    simp only [zstep] at h
    split at h
    · intro H locs ls hP hD hS hl
      exact W.lcmp hx hb (zdec_ok hs.1) (fall hs.2 h H locs ls hP hD hS hl)
    · cases h
  | dup =>
    simp only [zspec, Bool.and_eq_true, decide_eq_true_eq] at hs
    simp only [zstep] at h
    split at h
    · intro H locs ls hP hD hS hl
      exact lv_dup hx hb (zdec_ok hs.1) rfl (fall hs.2 h H locs ls hP hD hS hl)
    · intro H locs ls hP hD hS hl
      exact lv_dup hx hb (zdec_ok hs.1) rfl (fall hs.2 h H locs ls hP hD hS hl)
    · cases h
  | pop =>
    simp only [zspec, Bool.and_eq_true, decide_eq_true_eq] at hs
    simp only [zstep] at h
    split at h
    · intro H locs ls hP hD hS hl
      exact lv_pop hx hb (zdec_ok hs.1) rfl (fall hs.2 h H locs ls hP hD hS hl)
    · cases h
  | dup_x1 =>
    simp only [zspec, Bool.and_eq_true, decide_eq_true_eq] at hs
    simp only [zstep] at h
    split at h
    · intro H locs ls hP hD hS hl
      exact lv_dup_x1 hx hb (zdec_ok hs.1) rfl rfl (fall hs.2 h H locs ls hP hD hS hl)
    · intro H locs ls hP hD hS hl
      exact lv_dup_x1 hx hb (zdec_ok hs.1) rfl rfl (fall hs.2 h H locs ls hP hD hS hl)
    · cases h
  | dup2 =>
    simp only [zspec, Bool.and_eq_true, decide_eq_true_eq] at hs
    simp only [zstep] at h
    split at h
    · intro H locs ls hP hD hS hl
      exact lv_dup2_11 hx hb (zdec_ok hs.1) rfl rfl (fall hs.2 h H locs ls hP hD hS hl)
    · cases h
  | goto off =>
    simp only [zspec, Bool.and_eq_true, decide_eq_true_eq] at hs
    obtain ⟨h1, h2⟩ := hs
    split at h2
    next a as =>
      obtain ⟨tgt, ht, hj⟩ := jump h2
      intro H locs ls hP hD hS hl
      exact lv_goto hx hb (zdec_ok h1) ht (hj (show K (T.drop a) lo k σ = some res from h) H locs ls hP hD hS hl)
    next => cases h2
  | ifCond c0 off =>
    simp only [zspec, Bool.and_eq_true, decide_eq_true_eq] at hs
    obtain ⟨⟨h1, h2⟩, h3⟩ := hs
    cases c0 with
    | eq =>
      obtain ⟨x, k', a, as, rfl, rfl, hT, hF⟩ := zif1_inv (K := K) h
      obtain ⟨tgt, ht, hj⟩ := jump h3
      intro H locs ls hP hD hS hl
      exact lv_if_eq hx hb (zdec_ok h1) ht (fun hc => hj (hT hc) H locs ls hP hD hS hl) (fun hc => fall h2 (hF hc) H locs ls hP hD hS hl)
    | ne =>
      obtain ⟨x, k', a, as, rfl, rfl, hT, hF⟩ := zif1_inv (K := K) h
      obtain ⟨tgt, ht, hj⟩ := jump h3
      intro H locs ls hP hD hS hl
      exact lv_if_ne hx hb (zdec_ok h1) ht (fun hc => hj (hT hc) H locs ls hP hD hS hl) (fun hc => fall h2 (hF (not_not_intro hc)) H locs ls hP hD hS hl)
    | lt =>
      obtain ⟨x, k', a, as, rfl, rfl, hT, hF⟩ := zif1_inv (K := K) h
      obtain ⟨tgt, ht, hj⟩ := jump h3
      intro H locs ls hP hD hS hl
      exact lv_if_lt hx hb (zdec_ok h1) ht (fun hc => hj (hT hc) H locs ls hP hD hS hl) (fun hc => fall h2 (hF hc) H locs ls hP hD hS hl)
    | ge =>
      obtain ⟨x, k', a, as, rfl, rfl, hT, hF⟩ := zif1_inv (K := K) h
      obtain ⟨tgt, ht, hj⟩ := jump h3
      intro H locs ls hP hD hS hl
      exact lv_if_ge hx hb (zdec_ok h1) ht (fun hc => hj (hT hc) H locs ls hP hD hS hl) (fun hc => fall h2 (hF hc) H locs ls hP hD hS hl)
    | gt =>
      obtain ⟨x, k', a, as, rfl, rfl, hT, hF⟩ := zif1_inv (K := K) h
      obtain ⟨tgt, ht, hj⟩ := jump h3
      intro H locs ls hP hD hS hl
      exact lv_if_gt hx hb (zdec_ok h1) ht (fun hc => hj (hT hc) H locs ls hP hD hS hl) (fun hc => fall h2 (hF hc) H locs ls hP hD hS hl)
    | le =>
      obtain ⟨x, k', a, as, rfl, rfl, hT, hF⟩ := zif1_inv (K := K) h
      obtain ⟨tgt, ht, hj⟩ := jump h3
      intro H locs ls hP hD hS hl
      exact lv_if_le hx hb (zdec_ok h1) ht (fun hc => hj (hT hc) H locs ls hP hD hS hl) (fun hc => fall h2 (hF hc) H locs ls hP hD hS hl)
  | if_icmp c0 off =>
    simp only [zspec, Bool.and_eq_true, decide_eq_true_eq] at hs
    obtain ⟨⟨h1, h2⟩, h3⟩ := hs
    cases c0 with
    | eq =>
      obtain ⟨x, y, k', a, as, rfl, rfl, hT, hF⟩ := zif2_inv (K := K) h
      obtain ⟨tgt, ht, hj⟩ := jump h3
      intro H locs ls hP hD hS hl
      exact lv_icmp_eq hx hb (zdec_ok h1) ht (fun hc => hj (hT hc) H locs ls hP hD hS hl) (fun hc => fall h2 (hF hc) H locs ls hP hD hS hl)
    | ne =>
      obtain ⟨x, y, k', a, as, rfl, rfl, hT, hF⟩ := zif2_inv (K := K) h
      obtain ⟨tgt, ht, hj⟩ := jump h3
      intro H locs ls hP hD hS hl
      exact lv_icmp_ne hx hb (zdec_ok h1) ht (fun hc => hj (hT hc) H locs ls hP hD hS hl) (fun hc => fall h2 (hF (not_not_intro hc)) H locs ls hP hD hS hl)
    | lt =>
      obtain ⟨x, y, k', a, as, rfl, rfl, hT, hF⟩ := zif2_inv (K := K) h
      obtain ⟨tgt, ht, hj⟩ := jump h3
      intro H locs ls hP hD hS hl
      exact lv_icmp_lt hx hb (zdec_ok h1) ht (fun hc => hj (hT hc) H locs ls hP hD hS hl) (fun hc => fall h2 (hF hc) H locs ls hP hD hS hl)
    | ge =>
      obtain ⟨x, y, k', a, as, rfl, rfl, hT, hF⟩ := zif2_inv (K := K) h
      obtain ⟨tgt, ht, hj⟩ := jump h3
      intro H locs ls hP hD hS hl
      exact lv_icmp_ge hx hb (zdec_ok h1) ht (fun hc => hj (hT hc) H locs ls hP hD hS hl) (fun hc => fall h2 (hF hc) H locs ls hP hD hS hl)
    | gt =>
      obtain ⟨x, y, k', a, as, rfl, rfl, hT, hF⟩ := zif2_inv (K := K) h
      obtain ⟨tgt, ht, hj⟩ := jump h3
      intro H locs ls hP hD hS hl
      exact lv_icmp_gt hx hb (zdec_ok h1) ht (fun hc => hj (hT hc) H locs ls hP hD hS hl) (fun hc => fall h2 (hF hc) H locs ls hP hD hS hl)
    | le =>
      obtain ⟨x, y, k', a, as, rfl, rfl, hT, hF⟩ := zif2_inv (K := K) h
      obtain ⟨tgt, ht, hj⟩ := jump h3
      intro H locs ls hP hD hS hl
      exact lv_icmp_le hx hb (zdec_ok h1) ht (fun hc => hj (hT hc) H locs ls hP hD hS hl) (fun hc => fall h2 (hF hc) H locs ls hP hD hS hl)
  | tableswitch dflt lo0 hi offs =>
    simp only [zspec] at hs
    simp only [zstep] at h
    split at hs
    next n a as =>
      simp only [Bool.and_eq_true, decide_eq_true_eq] at hs
      obtain ⟨⟨⟨⟨⟨⟨h1, h2⟩, h3⟩, h4⟩, h5⟩, h6⟩, h7⟩ := hs
      split at h
      next x k' n' d' as' haux =>
        cases haux
        intro H locs ls hP hD hS hl
        have hlo : v.toInt = lo0 := by
          rw [← h2, Int32.toInt_ofInt]
          show lo0.bmod (2 ^ 32) = lo0
          have := offs.toList.length
          apply Int.bmod_eq_of_le <;> omega
        obtain ⟨td, htd, hjd⟩ := jump h6
        rcases zsw_inv (T := T) (pc := pc) offs.toList as v 0 (by omega) h7 h with ⟨hout, hk⟩ | ⟨j, off, a', hj, hxj, hta, hk⟩
        · refine lv_tableOut hx hb (zdec_ok h1) ?_ htd (hjd hk H locs ls hP hD hS hl)
          by_cases hlt : x.toInt < lo0
          · exact Or.inl hlt
          · right
            apply Int.not_le.mp
            intro hle
            exact hout (x.toInt - lo0).toNat (by omega) (by omega)
        · obtain ⟨t', ht', hj'⟩ := jump hta
          have hjl : j < offs.toList.length := (List.getElem?_eq_some_iff.mp hj).1
          refine lv_tableIn (off := off) hx hb (zdec_ok h1) (by omega) (by omega) ?_ ht' (hj' hk H locs ls hP hD hS hl)
          rw [show (x.toInt - lo0).toNat = j by omega, ← Array.getElem?_toList]
          exact hj
      next => cases h
    next => cases hs
  | getfield x0 =>
    simp only [zspec, Bool.and_eq_true, decide_eq_true_eq] at hs
    obtain ⟨⟨h1, h2⟩, h3⟩ := hs
    obtain ⟨q, k', ci, j, as, fs, o, rfl, rfl, hq, hj, hk⟩ := zgetf_inv (K := K) h
    split at h3
    next ci' j' a1 a2 as' heq =>
      cases heq
      split at h3
      next q3 hq3 =>
        simp only [Bool.and_eq_true, decide_eq_true_eq] at h3
        obtain ⟨⟨g1, g2⟩, g3⟩ := h3
        intro H locs ls hP hD hS hl
        have hlink := hts _ (zwd_ok g3)
        have hv := zfs_get (ad := ad) (σ := σ) (k := q) hj
        refine va_get (D := D) (cl := vwCl) (C := q3.1) (T := q3.2.1) (N := q3.2.2) (ci := ci) hx hb hts (ztbl_in ci q3 hq3).1 hown hK hP q (zW_get hq) hq3 j g1 hlink (fun z hz => by rw [g2] at hz; exact hz) hv (zdec_ok h1) ?_
        cases o with
        | none => exact fall h2 hk H locs ls hP hD hS hl
        | some r => exact fall h2 hk H locs ls hP hD hS hl
      next => cases h3
    next => cases h3
  | putfield x0 =>
    simp only [zspec, Bool.and_eq_true, decide_eq_true_eq] at hs
    obtain ⟨⟨h1, h2⟩, h3⟩ := hs
    obtain ⟨x, q, k', ci, j, b, as, fs, rfl, rfl, hq, hj, hz, hk⟩ := zputf_inv (K := K) h
    split at h3
    next ci' j' z' a1 a2 as' heq =>
      cases heq
      split at h3
      next q3 hq3 =>
        simp only [Bool.and_eq_true, decide_eq_true_eq] at h3
        obtain ⟨⟨⟨⟨g1, g2⟩, g3⟩, g4⟩, g5⟩ := h3
        intro H locs ls hP hD hS hl
        have hlink := hts _ (zwd_ok g4)
        have hv := zfs_get (ad := ad) (σ := σ) (k := q) hj
        obtain ⟨ty0, hty, hnm⟩ := (ztbl_in ci q3 hq3).2
        obtain ⟨ty, hd, hn, hfit⟩ : ∃ ty, parseFieldDescriptor (q3.2.1 j).2.2.1 = some ty ∧ narrow ty (.int x) = .int x ∧ fits ty (.int x) = true := by
          rw [g5]
          by_cases hb0 : b = 0
          · rw [if_pos hb0]
            exact ⟨.int, by decide +kernel, rfl, rfl⟩
          · rw [if_neg hb0]
            rcases hz with hz | rfl | rfl
            · exact absurd hz hb0
            · exact ⟨.boolean, by decide +kernel, by decide +kernel, by decide +kernel⟩
            · exact ⟨.boolean, by decide +kernel, by decide +kernel, by decide +kernel⟩
        have hx2 : (Sum.inr (ci, (zfs ad σ q fs).set j (.int x)) : va_E) = zcell cI cJ ad (zs σ q j x) q (.inr (.inr (ci, fs))) := by
          rw [zfs_set hj]
          rfl
        refine va_put (D := D) (cl := vwCl) (C := q3.1) (T := q3.2.1) (N := q3.2.2) (ci := ci) (v := .int x) hx hb hts (ztbl_in ci q3 hq3).1 ty0 hty hnm hown hK hP hD hS q (zW_get hq) hq3 j g1 hlink (fun z hz => by rw [g2] at hz; exact hz) g3 hd hn hfit (List.getElem?_eq_some_iff.mp hv).1 (zdec_ok h1) (fun H1 locs1 hP1 hD1 hS1 => ?_)
        exact fall h2 hk H1 locs1 ls (zP_set hq (fun k e' hk => zcell_zs k e' hk) hx2 hP1) (zD_set hq (fun k e' hk => zcell_zs (ad := ad) k e' hk) hx2 hD1) hS1 hl
      next => cases h3
    next => cases h3
  | iaload =>
    simp only [zspec, Bool.and_eq_true, decide_eq_true_eq] at hs
    obtain ⟨i, q, k', n, rfl, hq, hin, hk⟩ := ziald_inv (K := K) h
    intro H locs ls hP hD hS hl
    exact va_iald (D := D) (cl := vwCl) hx hb hK hP q 0 (zW_get hq) rfl hin (zdec_ok hs.1) (fall hs.2 hk H locs ls hP hD hS hl)
  | laload =>
    simp only [zspec, Bool.and_eq_true, decide_eq_true_eq] at hs
    obtain ⟨i, q, k', n, rfl, hq, hin, hk⟩ := zlald_inv (K := K) h
    intro H locs ls hP hD hS hl
    exact va_lald (D := D) (cl := vwCl) hx hb hK hP q 1 (zW_get hq) rfl hin (zdec_ok hs.1) (fall hs.2 hk H locs ls hP hD hS hl)
  | iastore =>
    simp only [zspec, Bool.and_eq_true, decide_eq_true_eq] at hs
    obtain ⟨x, i, q, k', n, rfl, hq, hin, hk⟩ := ziast_inv (K := K) h
    intro H locs ls hP hD hS hl
    have hx2 : (Sum.inl (cI, n, .inl (upd (σ.1 q) i.toNatClampNeg x)) : va_E) = zcell cI cJ ad (zs σ q i.toNatClampNeg x) q (.inl n) := by
      simp only [zcell, zs, zup_eq]
    exact va_iast (D := D) (cl := vwCl) hx hb hK hP hD hS q 0 (zW_get hq) rfl hin (zdec_ok hs.1) (fun H1 locs1 hP1 hD1 hS1 => fall hs.2 hk H1 locs1 ls (zP_set hq (fun k e' hk => zcell_zs k e' hk) hx2 hP1) (zD_set hq (fun k e' hk => zcell_zs (ad := ad) k e' hk) hx2 hD1) hS1 hl)
  | lastore =>
    simp only [zspec, Bool.and_eq_true, decide_eq_true_eq] at hs
    obtain ⟨x, i, q, k', n, rfl, hq, hin, hk⟩ := zlast_inv (K := K) h
    intro H locs ls hP hD hS hl
    have hx2 : (Sum.inl (cJ, n, .inr (.inl (vp_updL (σ.2 q) i.toNatClampNeg x))) : va_E) = zcell cI cJ ad (zsl σ q i.toNatClampNeg x) q (.inr (.inl n)) := by
      simp only [zcell, zsl, zup_eqL]
    exact va_last (D := D) (cl := vwCl) hx hb hK hP hD hS q 1 (zW_get hq) rfl hin (zdec_ok hs.1) (fun H1 locs1 hP1 hD1 hS1 => fall hs.2 hk H1 locs1 ls (zP_set hq (fun k e' hk => zcell_zsl k e' hk) hx2 hP1) (zD_set hq (fun k e' hk => zcell_zsl (ad := ad) k e' hk) hx2 hD1) hS1 hl)
  | arraylength =>
    simp only [zspec, Bool.and_eq_true, decide_eq_true_eq] at hs
    obtain ⟨q, k', n, rfl, hq, hk⟩ := zalen_inv (K := K) h
    intro H locs ls hP hD hS hl
    rcases hq with hq | hq
    · exact va_alen (D := D) (cl := vwCl) hx hb hK hP q 0 (zW_get hq) rfl rfl (zdec_ok hs.1) (fall hs.2 hk H locs ls hP hD hS hl)
    · exact va_alen (D := D) (cl := vwCl) hx hb hK hP q 1 (zW_get hq) rfl rfl (zdec_ok hs.1) (fall hs.2 hk H locs ls hP hD hS hl)
  | invokevirtual x0 =>
    simp only [zspec, Bool.and_eq_true, decide_eq_true_eq] at hs
    obtain ⟨⟨h1, h2⟩, h3⟩ := hs
    simp only [zstep] at h
    split at h
    next mm n r ci as =>
      split at h
      next hrc =>
        split at h3
        next mm' n' r' ci' a1 a2 as' heq =>
          cases heq
          obtain ⟨i1, i2, v', σ', hc, hk⟩ := zinv_inv (K := K) h
          obtain ⟨q, k', fs, hkd, hq⟩ := zrecv_inv hrc
          obtain ⟨y, hy1, hy2, hy3⟩ := hC _ _ _ _ hc
          rw [hy1] at h3
          simp only [Bool.and_eq_true, decide_eq_true_eq] at h3
          obtain ⟨⟨⟨⟨g1, g2⟩, g3⟩, g4⟩, g5⟩ := h3
          refine zcallV hx hb hml hown hts hK hN hA hy2 hy3 i1 hkd hq g4 g2 g3 (zwd_ok g1) (zdec_ok h1) i2 ?_
          rcases hk with ⟨-, rfl, hk⟩ | ⟨-, x, rfl, hk⟩ | ⟨x, rfl, hk⟩ <;> exact fall h2 hk
        next heq => cases heq
        next => cases h3
      next => cases h
    next => cases h
  | invokestatic x0 =>
    simp only [zspec, Bool.and_eq_true, decide_eq_true_eq] at hs
    obtain ⟨⟨h1, h2⟩, h3⟩ := hs
    simp only [zstep] at h
    split at h
    next mm n r z as =>
      split at h3
      next mm' n' r' z' a1 a2 as' heq =>
        cases heq
        obtain ⟨i1, i2, v', σ', hc, hk⟩ := zinv_inv (K := K) h
        obtain ⟨y, hy1, hy2, hy3⟩ := hC _ _ _ _ hc
        rw [hy1] at h3
        simp only [Bool.and_eq_true, decide_eq_true_eq] at h3
        obtain ⟨⟨⟨g1, g2⟩, g3⟩, g4⟩ := h3
        refine zcallS (z := z) hx hb hml hown hts hK hN hA hy2 hy3 i1 g2 g3 ?_ (zdec_ok h1) i2 ?_
        · by_cases hz : z = 0
          · rw [if_pos hz] at g1 ⊢
            exact zwd_ok g1
          · rw [if_neg hz] at g1 ⊢
            exact of_decide_eq_true g1
        · rcases hk with ⟨-, rfl, hk⟩ | ⟨-, x, rfl, hk⟩ | ⟨x, rfl, hk⟩ <;> exact fall h2 hk
      next heq => cases heq
      next => cases h3
    next hno =>
      obtain ⟨n, dp, b, sp, a, k', n0, n1, rfl, hsum, ⟨b1, b2, b3, b4, b5⟩, hcp⟩ := zcopy_inv (K := K) h
      split at h3
      next mm' n' r' z' a1 a2 as' => exact absurd rfl (hno _ _ _ _ _)
      next a1 a2 =>
        intro H locs ls hP hD hS hl
        have hroom : ((k'.map (zc ad)).map fun v => v.category).sum + (nativeFrameWords "java/lang/System" "arraycopy" 5 + 11) ≤ (zrm (d + 1)).locals := by
          rw [zw_sum]
          have : nativeFrameWords "java/lang/System" "arraycopy" 5 = 7 := by decide +kernel
          show _ ≤ 40 * (d + 1)
          omega
        have w1 : Cond.native arraycopyName ∈ zTb := zwd_ok (a := 2) (b := 117) (by decide +kernel)
        have w2 : Cond.static arraycopyName ∈ zTb := zwd_ok (a := 2) (b := 116) (by decide +kernel)
        have w3 : Cond.initialized "java/lang/System" ∈ zTb := zwd_ok (a := 1) (b := 10) (by decide +kernel)
        rcases hcp with ⟨hq0, hq1, hk⟩ | ⟨hq0, hq1, hk⟩
        · have hx2 : (Sum.inl (cI, n1, .inl (va_cpy (σ.1 a) (σ.1 b) sp.toNatClampNeg dp.toNatClampNeg n.toNatClampNeg)) : va_E) = zcell cI cJ ad (zsc σ a b sp.toNatClampNeg dp.toNatClampNeg n.toNatClampNeg) b (.inl n1) := by
            simp only [zcell, zsc, zcp_eq]
          exact va_copyi (ty := .int) hx hb (hml.trans hl.1.symm) hown (hts _ (zwd_ok h3)) (hts _ w1) (hts _ w2) (hts _ w3) hK hP hD hS a b 0 0 (zW_get hq0) (zW_get hq1) rfl rfl rfl b1 b2 b3 b4 b5 (fun _ _ => rfl) (Nat.le_add_left 1 d) hroom (zdec_ok h1) (fun H1 locs1 hP1 hD1 hS1 => fall h2 hk H1 locs1 ls (zP_set hq1 (fun k e' hk => zcell_zsc k e' hk) hx2 hP1) (zD_set hq1 (fun k e' hk => zcell_zsc (ad := ad) k e' hk) hx2 hD1) hS1 hl)
        · have hx2 : (Sum.inl (cJ, n1, .inr (.inl (va_cpy (σ.2 a) (σ.2 b) sp.toNatClampNeg dp.toNatClampNeg n.toNatClampNeg))) : va_E) = zcell cI cJ ad (zslc σ a b sp.toNatClampNeg dp.toNatClampNeg n.toNatClampNeg) b (.inr (.inl n1)) := by
            simp only [zcell, zslc, zcp_eq]
          exact va_copyl (ty := .long) hx hb (hml.trans hl.1.symm) hown (hts _ (zwd_ok h3)) (hts _ w1) (hts _ w2) (hts _ w3) hK hP hD hS a b 1 1 (zW_get hq0) (zW_get hq1) rfl rfl rfl b1 b2 b3 b4 b5 (fun _ _ => rfl) (Nat.le_add_left 1 d) hroom (zdec_ok h1) (fun H1 locs1 hP1 hD1 hS1 => fall h2 hk H1 locs1 ls (zP_set hq1 (fun k e' hk => zcell_zslc k e' hk) hx2 hP1) (zD_set hq1 (fun k e' hk => zcell_zslc (ad := ad) k e' hk) hx2 hD1) hS1 hl)
      next => cases h3
  | ireturn =>
    simp only [zspec] at hs
    simp only [zstep] at h
    split at h
    next x =>
      split at h
      next =>
        cases h
        intro H locs ls hP hD hS hl
        exact W.iret hx hb (hr.trans hret) (fun t ht hW => ⟨⟨x, (), rfl, rfl, by rw [ht]; exact hP, va_K.moved hW.alike hK, hD⟩, hS.F ht⟩) hS.2.2 (zdec_ok hs) hlocks
      next =>
        obtain ⟨hz, h⟩ := zbo_inv h
        cases h
        intro H locs ls hP hD hS hl
        exact W.zret (ty := .boolean) hx hb (hr.trans hret) (by rcases hz with rfl | rfl <;> decide +kernel) (fun t ht hW => ⟨⟨x, (), rfl, rfl, by rw [ht]; exact hP, va_K.moved hW.alike hK, hD⟩, hS.F ht⟩) hS.2.2 (zdec_ok hs) hlocks
      next => cases h
    next => cases h
  | lreturn =>
    simp only [zspec] at hs
    simp only [zstep] at h
    split at h
    next x =>
      split at h
      next =>
        cases h
        intro H locs ls hP hD hS hl
        exact W.lret hx hb (hr.trans hret) (fun t ht hW => ⟨⟨x, (), rfl, rfl, by rw [ht]; exact hP, va_K.moved hW.alike hK, hD⟩, hS.F ht⟩) hS.2.2 (zdec_ok hs) hlocks
      next => cases h
    next => cases h
  | return_ =>
    simp only [zspec] at hs
    simp only [zstep] at h
    split at h
    next =>
      split at h
      next =>
        cases h
        intro H locs ls hP hD hS hl
        exact W.vret hx hb (hr.trans hret) (fun t ht hW => ⟨⟨(), rfl, trivial, by rw [ht]; exact hP, va_K.moved hW.alike hK, hD⟩, hS.F ht⟩) hS.2.2 (zdec_ok hs) hlocks
      next => cases h
    next => cases h
  | _ => exact absurd (show (none : zR) = some res from h) (by intro h9; cases h9)
end ZST
