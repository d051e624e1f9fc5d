/-- Met.ofW, for a method of which it is known that no entry runs in its place -/
theorem zofW {l : Launch} {y : MethodName} {ws ws' : List Cond} {rm : Room} {Pc : Array Value → State → Prop} {Qc : Array Value → State → Outcome → State → Prop} {mc ms : Nat} {free : Addr → Prop} {cc : ByteArray} {maxL : Nat} {ret : Option FieldType}
    (hy : plainFor y = true) (hw : ws = Cond.code y cc maxL ret :: ws')
    (body : ∀ p e s m args below meth c s₁, BodyLoose p l y (headSpec ws rm) cc maxL ret e s m args below meth c s₁ → c.maxLocals = maxL → Pc args s →
      W p l e (headSpec ws rm).room s m args below meth c s.heap [] 0 0 (MQ below Qc args s mc ms free) (entryFrame m args maxL)) : Met l y ws rm Pc Qc mc ms free := by
  refine MetFree.of_bodySF (code := cc) (maxLocals := maxL) (ret := ret) hy ?_ ?_
  · intro args s m h hn
    obtain ⟨meth, c, h1, h2, h3, h4, h5, h6, -, -⟩ := Cond.code_spec hn (atoms_spec (ws := ws) h _ (by rw [hw]; exact List.mem_cons_self))
    exact ⟨meth, c, h1, h2, h3, h4, h5, h6⟩
  · intro p e s m args below meth c s₁ B hml hP _
    have hh0 : s₁.heap = s.heap := by rw [B.state]; rfl
    obtain ⟨t, a1, o, b1, b2, b3⟩ := body p e s m args below meth c s₁ B hml hP s₁ hh0 (Stand.of_body B)
    exact ⟨t, o, a1, b1, b2, ⟨b3.1, b3.2⟩⟩
section ZCL
variable {p : Program} {l : Launch} {e : Env} {s : State} {m : MethodId} {args : Array Value} {below : List Frame} {meth : Method} {c : Code} {cc : ByteArray} {A : Nat → Prop} {D : va_G} {cI cJ : ClassId} {ad : Nat → Nat} {sk : List zE} {own : String} {nL : Nat} {Ms : List zMeth} {C : Nat → List zV → zS → zR} {T : zT} {rk d : Nat} {res : Option zV × zS} {ret0 : Option FieldType} {J : Nat → zL → List zV → zS → zR}
theorem zdrop_get {n : Nat} {e' : zEnt} {es' : zT} (h : T.drop n = e' :: es') : T[n]? = some e' ∧ es' = T.drop (n + 1) := by
  have h1 : T[n]? = some e' := by
    have := congrArg (fun l => l[0]?) h
    simpa [List.getElem?_drop] using this
  refine ⟨h1, ?_⟩
  have := congrArg (List.drop 1) h
  simpa [List.drop_drop] using this.symm
theorem zline_ok
    (hx : p.tables.exec = Jvm.exec) (hb : c.code = cc) (hr : meth.sig.returnType = ret0) (hret : ret0 = (match rk with
      | 0 => none
      | 1 => some .int
      | 2 => some .long
      | _ => some .boolean)) (hml : c.maxLocals = nL) (hown : s.vm.findClass own = some m.cls) (hts : ∀ w ∈ zTb, w.before args s = true) (hlocks : meth.locks = false) (hK : va_K D vwCl [(cI, .int), (cJ, .long)] s) (hN : zNk s) (hA : ∀ q : Nat, s.heap.size ≤ q → A q)
    (hC : ∀ mm as τ r', C mm as τ = some r' → ∃ y, Ms[mm]? = some y ∧ zmok Ms y ∧ zMet l D cI cJ ad sk (zrm d) y as τ r')
    (hcut : ∀ (n : Nat) (e' : zEnt), T[n]? = some e' → e'.2.2.1 = 0 ∨ e'.2.2.1 = n + 1)
    (hsp : ∀ (n : Nat) (e' : zEnt), T[n]? = some e' → zspec Ms own cc nL T e'.1 e'.2.1 e'.2.2.2.1 e'.2.2.2.2.1 e'.2.2.2.2.2.1 (T.drop (n + 1)) = true)
    (hJ : ∀ (o : Nat) (e' : zEnt) (es' : zT) (lo' : zL) (k' : List zV) (σ' : zS), T.drop o = e' :: es' → J o lo' k' σ' = some res → zAt p l e (zrm (d + 1)) s m args below meth c A D cI cJ ad sk nL (MQ below (zQ D cI cJ ad sk res A) args s 0 0 A) e'.1 lo' k' σ') :
    ∀ (g n : Nat) (e' : zEnt) (es' : zT) (lo : zL) (k : List zV) (σ : zS), T.drop n = e' :: es' → zline sk C J T rk g (e' :: es') lo k σ = some res → zAt p l e (zrm (d + 1)) s m args below meth c A D cI cJ ad sk nL (MQ below (zQ D cI cJ ad sk res A) args s 0 0 A) e'.1 lo k σ := by
  intro g
  induction g with
  | zero => intro n e' es' lo k σ he h; cases h
  | succ g ih =>
    intro n e' es' lo k σ he h
    obtain ⟨h1, h2⟩ := zdrop_get he
    have hs := hsp n e' h1
    rw [← h2] at hs
    unfold zline at h
    dsimp only at h
    refine zstep_ok hx hb hr hret hml hown hts hlocks hK hN hA hC ?_ hs h
    intro e2 es2 lo2 k2 σ2 hpos hk
    obtain ⟨n2, hn2⟩ : ∃ n2, T.drop n2 = e2 :: es2 := by
      rcases hpos with hp | ⟨a, ha⟩
      · exact ⟨n + 1, by rw [← h2, hp]⟩
      · exact ⟨a, ha⟩
    have hg := (zdrop_get hn2).1
    have hc := hcut n2 e2 hg
    dsimp only at hk
    rcases hc with hc | hc
    · rw [hc] at hk
      exact ih n2 e2 es2 lo2 k2 σ2 hn2 hk
    · rw [hc] at hk
      have hz := hJ n2 e2 es2 _ k2 σ2 hn2 hk
      intro H locs ls hP hD hS hl
      exact hz H locs ls hP hD hS (zloc_mask _ hl)
theorem zexec_ok
    (hx : p.tables.exec = Jvm.exec) (hb : c.code = cc) (hr : meth.sig.returnType = ret0) (hret : ret0 = (match rk with
      | 0 => none
      | 1 => some .int
      | 2 => some .long
      | _ => some .boolean)) (hml : c.maxLocals = nL) (hown : s.vm.findClass own = some m.cls) (hts : ∀ w ∈ zTb, w.before args s = true) (hlocks : meth.locks = false) (hK : va_K D vwCl [(cI, .int), (cJ, .long)] s) (hN : zNk s) (hA : ∀ q : Nat, s.heap.size ≤ q → A q)
    (hC : ∀ mm as τ r', C mm as τ = some r' → ∃ y, Ms[mm]? = some y ∧ zmok Ms y ∧ zMet l D cI cJ ad sk (zrm d) y as τ r')
    (hcut : ∀ (n : Nat) (e' : zEnt), T[n]? = some e' → e'.2.2.1 = 0 ∨ e'.2.2.1 = n + 1)
    (hsp : ∀ (n : Nat) (e' : zEnt), T[n]? = some e' → zspec Ms own cc nL T e'.1 e'.2.1 e'.2.2.2.1 e'.2.2.2.2.1 e'.2.2.2.2.2.1 (T.drop (n + 1)) = true) :
    ∀ (n o : Nat) (e' : zEnt) (es' : zT) (lo : zL) (k : List zV) (σ : zS), T.drop o = e' :: es' → zexec sk C T rk n o lo k σ = some res → zAt p l e (zrm (d + 1)) s m args below meth c A D cI cJ ad sk nL (MQ below (zQ D cI cJ ad sk res A) args s 0 0 A) e'.1 lo k σ := by
  intro n
  induction n with
  | zero => intro o e' es' lo k σ he h; cases h
  | succ n ih =>
    intro o e' es' lo k σ he h
    have h1 : zline sk C (zexec sk C T rk n) T rk 500 (T.drop o) lo k σ = some res := h
    rw [he] at h1
    exact zline_ok hx hb hr hret hml hown hts hlocks hK hN hA hC hcut hsp ih 500 o e' es' lo k σ he h1
/-- THE SMALL MACHINE IS RIGHT: what a call of depth d answers, the method answers in the room of depth d -/
theorem zcall_ok (hMs : ∀ (mm : Nat) (y : zMeth), Ms[mm]? = some y → zmok Ms y) : ∀ (d mm : Nat) (as : List zV) (σ : zS) (res : Option zV × zS), zcall Ms sk d mm as σ = some res → ∃ y, Ms[mm]? = some y ∧ zmok Ms y ∧ zMet l D cI cJ ad sk (zrm d) y as σ res := by
  intro d
  induction d with
  | zero => intro mm as σ res h; cases h
  | succ d ih =>
    intro mm as σ res h
    unfold zcall at h
    split at h
    next y1 b nL r np st rk T hy =>
      split at h
      next hn =>
        refine ⟨_, hy, hMs mm _ hy, ?_⟩
        obtain ⟨m1, m2, m3, m4, m5, m6, m7, m8, m9, m10, m11⟩ := hMs mm _ hy
        intro sz
        refine zofW (cc := b) (maxL := nL) (ret := r) m1 rfl ?_
        intro p e s m args below meth c s₁ B hml hv
        obtain ⟨rfl, hsz, hP, hK, hD0, hN⟩ := hv
        subst hsz
        have hts : ∀ w ∈ zTb, w.before ((as.map (zc ad)).toArray) s = true := fun w hw => atoms_spec (ws := Cond.code y1 b nL r :: zTb) B.pre w (List.mem_cons_of_mem _ hw)
        have hown : s.vm.findClass y1.cls = some m.cls := findClass_of_methodNamed B.named
        rw [lg_entry_eq]
        obtain ⟨e0, he0, hpc⟩ := Option.map_eq_some_iff.mp m9
        have hT : T.drop 0 = e0 :: T.drop 1 := by
          obtain ⟨hl, hg⟩ := List.getElem?_eq_some_iff.mp he0
          rw [List.drop_eq_getElem_cons hl]
          rw [show T[0] = e0 from hg]
        have hz := zexec_ok (e := e) (below := below) (A := va_A (zW cI cJ ad sk σ) s.heap.size) (D := D) (cI := cI) (cJ := cJ) (ad := ad) B.exec B.bytes B.returns m7 hml hown hts B.notSynchronized hK hN (fun q hq => Or.inr hq) ih m10 m11 zN 0 e0 (T.drop 1) _ _ _ hT h
        rw [hpc] at hz
        exact hz s.heap [] _ hP hD0.self va_S.rf (zloc_entry ad as nL (Nat.le_of_ble_eq_true hn))
      next => cases h
    next => cases h
end ZCL
