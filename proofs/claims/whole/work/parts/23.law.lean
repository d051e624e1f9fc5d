/-! THE CLAIM OUT OF ONE WALK OF THE LAW'S BODY. Your part is whole_start (and what it stands on); all else here is the same for every law, but numbers. -/
def R_law : String := "ProtoOrdersLaw"
def lw_P (b : Addr) (xs : List Int32) (args : Array Value) (s : State) : Prop := args = #[.ref b] ∧ s.IntsAt b xs ∧ xs.length ≤ 3584 ∧ (Jvm.Cond.and given_1 narrow_1).before args s = true
def lw_Q (_ : Array Value) (s : State) (o : Outcome) (t : State) : Prop := o = .returned (some (.int 1)) ∧ Framed s o t [] 600000 7302250
def lw_Z (below : List Frame) (a : Array Value) (s : State) : State → Prop := fun t => ∃ o, t.status = .running ∧ Ended t below o ∧ lw_Q a s o t
/-- the law's own end, with 1 on the stack, nothing written that was there before, its room as the claim has it -/
theorem lw_ret {p : Program} {l : Launch} {e : Env} {s : State} {m : MethodId} {below : List Frame} {meth : Method} {c : Code} {b : Nat} (hx : p.tables.exec = Jvm.exec) (hb : c.code = code) (hr : meth.sig.returnType = ret) (hlocks : meth.locks = false) {pc : Nat} {H : Heap} {ls : Array Slot} (hdg : decode code pc = .ok (.ireturn, 1)) : W p l e room_1 s m #[Value.ref b] below meth c H [] 600000 7302250 (lw_Z below #[Value.ref b] s) (F0 m pc ls [.int 1]) := by
  intro T hT X
  obtain ⟨fs, hret, hrun, hended, hW, hframe⟩ := X.leave (v := some (.int 1)) (hlocks := hlocks) (fun h => by rw [hr] at h; cases h)
  have hmeth' : T.vm.method? m = some meth := X.method'
  refine ⟨T.setFrames fs, ?_, .returned (some (.int 1)), hrun, hended, rfl, ⟨_, rfl⟩, hW, hframe⟩
  jvm_step X.here [X.here.top, hx, hb, hdg, hmeth', hr, ret, narrow_b1]
  (try refine ⟨rfl, ?_⟩); (try refine ⟨rfl, ?_⟩)
  first | (intro acts; rw [hret _ acts rfl rfl rfl]) | rw [hret _ _ rfl rfl rfl]
  exact Steps.refl _
/-- what holds at the law's entry: the machine, the code, the tables' words (any of lw_tbl by 'hts w (by decide +kernel)'), the script of L ints xs at the cell b, what the Statement gives of the start (any of its parts by flat_of_before) -/
def lw_At (p : Program) (s : State) (m : MethodId) (meth : Method) (c : Code) (b L : Nat) (xs : Nat → Int32) : Prop :=
  p.tables.exec = Jvm.exec ∧ c.code = code ∧ meth.sig.returnType = ret ∧ c.maxLocals = 4 ∧ s.vm.findClass R_law = some m.cls ∧ (∀ w ∈ lw_tbl, w.before #[Value.ref b] s = true) ∧ va_X b L xs s s.heap ∧ b < s.heap.size ∧ meth.locks = false ∧ (Jvm.Cond.and given_1 narrow_1).before #[Value.ref b] s = true
/-! THE LAW over two worlds: the class's, the reference's. -/
def zDp : Nat := 1500
/-- both answer alike, and go on alike -/
def zSim (Rel : zS → zS → Prop) (mx mm : Nat) (as : List zV) : Prop := ∀ σ τ, Rel σ τ → ∃ (r : Int32) (σ' τ' : zS), zcall zMs skX zDp mx (.inr (.inr 0) :: as) σ = some (some (.inl r), σ') ∧ zcall zMs skM zDp mm (.inr (.inr 0) :: as) τ = some (some (.inl r), τ') ∧ Rel σ' τ'
def zSimJ (Rel : zS → zS → Prop) (mx mm : Nat) (as : List zV) : Prop := ∀ σ τ, Rel σ τ → ∃ (r : Int64) (σ' τ' : zS), zcall zMs skX zDp mx (.inr (.inr 0) :: as) σ = some (some (.inr (.inl r)), σ') ∧ zcall zMs skM zDp mm (.inr (.inr 0) :: as) τ = some (some (.inr (.inl r)), τ') ∧ Rel σ' τ'
section LWC
variable {p : Program} {l : Launch} {e : Env} {s : State} {m : MethodId} {args : Array Value} {below : List Frame} {meth : Method} {c : Code} {A : Nat → Prop} {D : va_G} {cI cJ : ClassId} {Q : State → Prop}
theorem lw_call {ad1 ad2 : Nat → Nat} {sk1 sk2 : List zE} {σ τ σ' : zS} {mm idx np ci a1 a2 pc cl0 sl0 : Nat} {y : zMeth} {fs : List (Option Nat)} {as : List zV} {rest st : List Value} {v : zV} {H : Heap} {locs : List Loc} {ls : Array Slot}
    (hMs : ∀ (mm : Nat) (y : zMeth), zMs[mm]? = some y → zmok zMs y)
    (hx : p.tables.exec = Jvm.exec) (hb : c.code = code) (hml : c.maxLocals = 4) (hown : s.vm.findClass R_law = some m.cls) (hts : ∀ w ∈ zTb, w.before args s = true) (hK : va_K D vwCl [(cI, .int), (cJ, .long)] s) (hN : zNk s) (hA : ∀ q : Nat, s.heap.size ≤ q → A q)
    (hz : zcall zMs sk1 zDp mm (.inr (.inr 0) :: as) σ = some (some v, σ')) (hy : zMs[mm]? = some y) (hnp : y.2.2.2.2.1 = as.length) (hst : y.2.2.2.2.2.1 = false) (hci : (vwCl[ci]?).map (fun q => q.1) = some y.1.cls) (hq : sk1[0]? = some (.inr (.inr (ci, fs)))) (hlink : zwd a1 a2 (.methodLink R_law idx y.1) = true)
    (hdec : decode code pc = .ok (.invokevirtual idx, 3)) (hstk : st = (as.map (zc ad1)).reverse ++ .ref (ad1 0) :: rest) (hsum : (rest.map fun v => v.category).sum ≤ 8) (hls : ls.size = 4) (hcl : cl0 ≤ 600000) (hsl : sl0 ≤ 7302250)
    (hP1 : va_P D vwCl (zW cI cJ ad1 sk1 σ) H) (hP2 : va_P D vwCl (zW cI cJ ad2 sk2 τ) H) (hD1 : va_D A (zW cI cJ ad1 sk1 σ)) (hap : ∀ i, i < sk1.length → ∀ j, j < sk2.length → ad1 i ≠ ad2 j) (hS : va_S A s.heap H locs)
    (kk : ∀ (H1 : Heap) (locs1 : List Loc), va_P D vwCl (zW cI cJ ad1 sk1 σ') H1 → va_P D vwCl (zW cI cJ ad2 sk2 τ) H1 → va_S A s.heap H1 locs1 → W p l e room_1 s m args below meth c H1 locs1 cl0 sl0 Q (F0 m (pc + 3) ls (zc ad1 v :: rest))) : W p l e room_1 s m args below meth c H locs cl0 sl0 Q (F0 m pc ls st) := by
  subst hstk
  obtain ⟨y', hy', hok, hM⟩ := zcall_ok (l := l) (D := D) (cI := cI) (cJ := cJ) (ad := ad1) hMs zDp mm (.inr (.inr 0) :: as) σ (some v, σ') hz
  rw [hy] at hy'
  cases hy'
  obtain ⟨m1, m2, m3, m4, m5, m6, m7, m8, -, -, -⟩ := hok
  rw [if_neg (by rw [hst]; decide)] at m6
  obtain ⟨q3, hq3, he3⟩ := Option.map_eq_some_iff.mp hci
  have hM0 := hM H.size
  have hgw : ∀ w ∈ wsV R_law idx y.1.cls y.1 (Cond.code y.1 y.2.1 y.2.2.1 y.2.2.2.1 :: zTb), w ∈ zTb := by
    intro w hw
    unfold wsV at hw
    rcases List.mem_append.mp hw with h | h
    · simp only [List.mem_cons, List.not_mem_nil, or_false] at h
      rcases h with rfl | rfl | rfl | rfl
      · exact zwd_ok hlink
      · exact m6.1
      · exact m6.2
      · exact m4
    · exact zgood_all y m3 w h
  have hF : ∀ q, va_A (zW cI cJ ad1 sk1 σ) H.size q → A q := by
    rintro q (⟨i, x, h⟩ | h)
    · exact hD1.2 i (q, x) h
    · exact hA q (Nat.le_trans hS.1 h)
  have hrun : va_Run p l e room_1 s m args below meth c H locs cl0 sl0 0 0 (F0 m pc ls ((as.map (zc ad1)).reverse ++ .ref (ad1 0) :: rest)) rest (zQ D cI cJ ad1 sk1 (some v, σ') (va_A (zW cI cJ ad1 sk1 σ) H.size) (Value.ref (ad1 0) :: as.map (zc ad1)).toArray) (va_A (zW cI cJ ad1 sk1 σ) H.size) := by
    refine va_runV (C := y.1.cls) (As := as.map (zc ad1)) (b := ad1 0) (n := as.length) (mc := 0) (ms := 0) (nL := 4) ⟨hx, hb, hml, hown, hts⟩ hM0 (cwV as.length hts (fun w hw => ⟨hgw w hw, ztbl_good w (hgw w hw)⟩) rfl rfl rfl ⟨rfl, m2.1, m2.2, by rw [m5, hnp]⟩ ⟨?_, ?_⟩) ⟨?_, ?_, ?_⟩ rfl (by simp) hls rfl (lv_room hsum) hdec ⟨hcl, hsl⟩
    · exact Nat.le_of_ble_eq_true rfl
    · show 8 + (y.2.2.1 + 11) + 40 * zDp ≤ 84000
      unfold zDp
      omega
    · intro a U g mk q
      obtain ⟨q0, q1, qP, qK, qD, qN⟩ := q
      exact ⟨q0, q1, qP, va_K.moved (u := U) (U := U.calling g mk a) (Vm.Alike.refl U.vm) qK, qD, va_Nw.same (u := U) (U := U.calling g mk a) rfl rfl qN⟩
    · rw [← he3]
      exact va_recv hK hP1 hq3 (zW_get hq)
    · intro U hU hW
      exact ⟨rfl, by rw [hU], by rw [hU]; exact hP1, va_K.moved hW.alike hK, hD1.weaken (fun _ _ _ _ => trivial), zNk.warm hW hN⟩
  have key : ∀ (t : State) (H1 : Heap) (locs1 : List Loc), t.heap = H1 → zB D cI cJ ad1 sk1 (va_A (zW cI cJ ad1 sk1 σ) H.size) σ' () t → (∀ q : Nat, q < H.size → ¬ va_A (zW cI cJ ad1 sk1 σ) H.size q → H1[q]? = H[q]?) → va_S A s.heap H1 locs1 → W p l e room_1 s m args below meth c H1 locs1 cl0 sl0 Q (F0 m (pc + 3) ls (zc ad1 v :: rest)) := by
    intro t H1 locs1 ht hB hk hS1
    obtain ⟨hPa, hKa, hDa⟩ := hB
    rw [ht] at hPa
    refine kk H1 locs1 hPa ?_ hS1
    intro k2 p2 hk2
    have hlt := (hP2 k2 p2 hk2).lt
    refine (hP2 k2 p2 hk2).kept (hk p2.1 hlt ?_)
    rintro (⟨i, x, h⟩ | h)
    · have hj : k2 < sk2.length := by
        have := (List.getElem?_eq_some_iff.mp hk2).1
        simpa [zW] using this
      have hi : i < sk1.length := by
        have := (List.getElem?_eq_some_iff.mp h).1
        simpa [zW] using this
      have e1 : p2.1 = ad2 k2 := by
        rw [zW_get (List.getElem?_eq_getElem hj)] at hk2
        cases hk2
        rfl
      have e2 : p2.1 = ad1 i := by
        rw [zW_get (List.getElem?_eq_getElem hi)] at h
        simp only [Option.some.injEq, Prod.mk.injEq] at h
        exact h.1.symm
      exact hap i hi k2 hj (e2.symm.trans e1)
    · omega
  rcases v with x | x | x
  · exact va_calli (a := (Value.ref (ad1 0) :: as.map (zc ad1)).toArray) hrun hS (fun q _ h => hF q h) hF (fun r u t H1 locs1 ht _ hr hB _ hk hS1 => by subst hr; exact key t H1 locs1 ht hB hk hS1)
  · exact va_calll (a := (Value.ref (ad1 0) :: as.map (zc ad1)).toArray) hrun hS (fun q _ h => hF q h) hF (fun r u t H1 locs1 ht _ hr hB _ hk hS1 => by subst hr; exact key t H1 locs1 ht hB hk hS1)
  · intro T hT X
    obtain ⟨v, st0, t, T', L, h0, X', hL, e1, e2, hf, st⟩ := hrun T hT X
    exact hf.elim
/-- script[i + j] comes onto the stack -/
theorem lw_arg {b L pc : Nat} {i jc : Int32} {j : Nat} {xs : Nat → Int32} {H : Heap} {locs : List Loc} {ls : Array Slot} {rest : List Value} {cl0 sl0 pc4 : Nat} {lv : List (Nat × Value)}
    (hx : p.tables.exec = Jvm.exec) (hb : c.code = code) (hX : va_X b L xs s s.heap) (hbl : b < s.heap.size) (hbA : ¬ A b) (hS : va_S A s.heap H locs) (h0 : ls[0]? = some (.val (.ref b))) (h3 : ls[3]? = some (.val (.int i))) (hij : i + jc = nI j) (hj : j < L) (hL : L < 2 ^ 31)
    (d0 : decode code pc = .ok (.aload_n 0, 1)) (d1 : decode code (pc + 1) = .ok (.iload_n 3, 1)) (hc : ∀ (k : W p l e room_1 s m args below meth c H locs cl0 sl0 Q (F0 m pc4 ls (.int jc :: .int i :: .ref b :: rest))), W p l e room_1 s m args below meth c H locs cl0 sl0 Q (F0 m (pc + 2) ls (.int i :: .ref b :: rest))) (d3 : decode code pc4 = .ok (.iadd, 1)) (d4 : decode code (pc4 + 1) = .ok (.iaload, 1))
    (kk : W p l e room_1 s m args below meth c H locs cl0 sl0 Q (F0 m (pc4 + 2) ls (.int (xs j) :: rest))) : W p l e room_1 s m args below meth c H locs cl0 sl0 Q (F0 m pc ls rest) := by
  refine lv_aload_n hx hb d0 rfl h0 ?_
  refine lv_iload_n hx hb d1 rfl h3 ?_
  refine hc ?_
  refine lv_iadd hx hb d3 ?_
  refine va_sld hx hb hX hbl hbA hS (by rw [hij]; exact vp_in_nI hj hL) d4 ?_
  rw [hij, nI_clamp (Nat.lt_trans hj hL)]
  exact kk
end LWC
