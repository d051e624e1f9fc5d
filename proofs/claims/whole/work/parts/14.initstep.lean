def yNk (U : State) : Prop := ∀ w ∈ yNs, va_Nw w U
theorem yNk.warm {s U : State} (hW : s.WarmedH U.vm) (h : yNk s) : yNk U := by
  intro w hw
  have := h w hw
  simp only [yNs, List.mem_cons, List.not_mem_nil, or_false] at hw
  rcases hw with rfl | rfl | rfl | rfl | rfl | rfl | rfl <;> exact va_Nw.warmM hW this
theorem yNk.same {u U : State} (hv : u.vm = U.vm) (h : yNk u) : yNk U := by
  intro w hw
  have := h w hw
  simp only [yNs, List.mem_cons, List.not_mem_nil, or_false] at hw
  rcases hw with rfl | rfl | rfl | rfl | rfl | rfl | rfl <;> exact va_Nw.same rfl hv this
theorem yNk.zNk {U : State} (h : yNk U) : zNk U := h _ (by decide +kernel)
def ybits (F : u_T) : Nat → List Nat → Bool
  | _, [] => true
  | j, b :: bs => (match parseFieldDescriptor (F j).2.2.1 with
    | some t => decide (defaultValue t = if b = 0 then Value.int 0 else Value.null)
    | none => false) && ybits F (j + 1) bs
theorem ybits_ok {F : u_T} : ∀ (bs : List Nat) (j0 j b : Nat) (ty : FieldType), ybits F j0 bs = true → bs[j]? = some b → parseFieldDescriptor (F (j0 + j)).2.2.1 = some ty → defaultValue ty = if b = 0 then Value.int 0 else Value.null
  | [], _, _, _, _, _, h, _ => by simp at h
  | b0 :: bs, j0, j, b, ty, hb, h, hp => by
    simp only [ybits, Bool.and_eq_true] at hb
    cases j with
    | zero =>
      simp only [List.getElem?_cons_zero, Option.some.injEq] at h
      subst h
      have h1 := hb.1
      rw [Nat.add_zero] at hp
      rw [hp] at h1
      exact of_decide_eq_true h1
    | succ j =>
      simp only [List.getElem?_cons_succ] at h
      exact ybits_ok bs (j0 + 1) j b ty hb.2 h (by rw [show j0 + 1 + j = j0 + (j + 1) by omega]; exact hp)
def yref (d : String) : Bool := match parseFieldDescriptor d with
  | some (.object _) => true
  | some (.array _) => true
  | _ => false
theorem yref_ok {d : String} (h : yref d = true) : ∃ ty, parseFieldDescriptor d = some ty ∧ ∀ a : Nat, narrow ty (.ref a) = .ref a ∧ fits ty (.ref a) = true := by
  unfold yref at h
  split at h
  next c hc => exact ⟨_, hc, fun a => ⟨rfl, rfl⟩⟩
  next c hc => exact ⟨_, hc, fun a => ⟨rfl, rfl⟩⟩
  next => cases h
def yspec (Ms : List zMeth) (own : String) (b : ByteArray) (nL : Nat) (T : zT) (pc : Nat) (i : Instr) (v : Int32) (aux : List Nat) (es : zT) : Bool := match i with
  | .aload_n _ => zdec b pc i 1 && zfall es (pc + 1)
  | .iload_n _ => zdec b pc i 1 && zfall es (pc + 1)
  | .iconst n => zdec b pc i 1 && zfall es (pc + 1) && decide (Int32.ofInt n = v)
  | .bipush n => zdec b pc i 2 && zfall es (pc + 2) && decide ((Int8.ofInt n).toInt32 = v)
  | .sipush n => zdec b pc i 3 && zfall es (pc + 3) && decide ((Int16.ofInt n).toInt32 = v)
  | .istore_n x => zdec b pc i 1 && zfall es (pc + 1) && decide ((x : Nat) < nL)
  | .iinc x n => zdec b pc i 3 && zfall es (pc + 3) && decide (Int32.ofInt n = v) && decide (x < nL)
  | .if_icmp _ off => zdec b pc i 3 && zfall es (pc + 3) && (match aux with
    | a :: _ => ztgt T a pc off
    | _ => false)
  | .goto off => zdec b pc i 3 && (match aux with
    | a :: _ => ztgt T a pc off
    | _ => false)
  | .dup => zdec b pc i 1 && zfall es (pc + 1)
  | .new x => zdec b pc i 3 && zfall es (pc + 3) && (match aux with
    | ci :: N :: a1 :: a2 :: b1 :: b2 :: c1 :: c2 :: bs => match vwCl[ci]? with
      | some q => decide (q.2.2 = N) && zwd a1 a2 (.classLink own x q.1) && zwd b1 b2 (.instantiable q.1 N) && zwd c1 c2 (.initialized q.1) && decide (bs.length = N) && ybits q.2.1 0 bs
      | none => false
    | _ => true)
  | .newarray t => zdec b pc i 2 && zfall es (pc + 2) && (match aux with
    | a1 :: a2 :: _ => zwd a1 a2 (.arrayClass (newarray.typeOf t))
    | _ => false)
  | .getfield x => zdec b pc i 3 && zfall es (pc + 3) && (match aux with
    | ci :: j :: a1 :: a2 :: _ => match vwCl[ci]? with
      | some q => decide (j < q.2.2) && decide ((q.2.1 j).1 = q.1) && zwd a1 a2 (.fieldLink own x q.1 (q.2.1 j).2.1 (q.2.1 j).2.2.1)
      | none => false
    | _ => false)
  | .putfield x => zdec b pc i 3 && zfall es (pc + 3) && (match aux with
    | ci :: j :: bk :: a1 :: a2 :: _ => match vwCl[ci]? with
      | some q => decide (j < q.2.2) && decide ((q.2.1 j).1 = q.1) && decide (q.1 = own) && zwd a1 a2 (.fieldLink own x q.1 (q.2.1 j).2.1 (q.2.1 j).2.2.1) && (match bk with
        | 0 => decide ((q.2.1 j).2.2.2 = false) && decide ((q.2.1 j).2.2.1 = "I")
        | _ => decide ((q.2.1 j).2.2.2 = true) && yref (q.2.1 j).2.2.1)
      | none => false
    | _ => false)
  | .iastore => zdec b pc i 1 && zfall es (pc + 1)
  | .invokespecial x => zdec b pc i 3 && zfall es (pc + 3) && (match aux with
    | 0 :: a1 :: a2 :: b1 :: b2 :: c1 :: c2 :: _ => zwd a1 a2 (.methodLink own x objectInit) && zwd b1 b2 (.instanceMethod objectInit) && zwd c1 c2 (.code objectInit ⟨#[0xb1]⟩ 1 none)
    | (_ + 1) :: m :: z :: a1 :: a2 :: _ => match Ms[m]? with
      | some y => (if z = 0 then zwd a1 a2 (.methodLink own x y.1) else decide (Cond.methodLinkNest own x y.1 "ProtoOrders" ∈ yNs))
      | none => false
    | _ => false)
  | .invokestatic x => zdec b pc i 3 && zfall es (pc + 3) && (match aux with
    | [m, a1, a2] => Nat.beq m 220 && zwd a1 a2 (.methodLink own x yJ7_fill_53178)
    | _ => false)
  | .return_ => zdec b pc i 1
  | _ => true
def yall (Ms : List zMeth) (own : String) (b : ByteArray) (nL : Nat) (T : zT) : zT → Bool
  | [] => true
  | e :: es => yspec Ms own b nL T e.1 e.2.1 e.2.2.2.1 e.2.2.2.2.2.1 es && yall Ms own b nL T es
theorem yall_ok {Ms : List zMeth} {own : String} {b : ByteArray} {nL : Nat} {T : zT} : ∀ (es : zT), yall Ms own b nL T es = true → ∀ n e, es[n]? = some e → yspec Ms own b nL T e.1 e.2.1 e.2.2.2.1 e.2.2.2.2.2.1 (es.drop (n + 1)) = true
  | [], _, n, e, h => by simp at h
  | e0 :: es, ha, n, e, h => by
    simp only [yall, Bool.and_eq_true] at ha
    cases n with
    | zero =>
      simp only [List.getElem?_cons_zero, Option.some.injEq] at h
      subst h
      exact ha.1
    | succ n =>
      simp only [List.getElem?_cons_succ] at h
      exact yall_ok es ha.2 n e h
def ymok (Ms : List zMeth) (y : zMeth) : Prop := Jvm.plainName y.1.cls = true ∧ (y.1.cls ≠ "java/lang/invoke/MethodHandle" ∧ y.1.cls ≠ "java/lang/invoke/VarHandle") ∧ Cond.code y.1 y.2.1 y.2.2.1 none ∈ zTb ∧ Cond.initialized y.1.cls ∈ zTb ∧ (parseMethodDescriptor y.1.desc).map (fun d => d.parameters.length) = some 0 ∧ Cond.instanceMethod y.1 ∈ zTb ∧ y.1.name = "<init>" ∧ y.2.2.1 ≤ 10 ∧ ((y.2.2.2.2.2.2.2[0]?).map (fun e => e.1) = some 0) ∧
  ∀ n e, y.2.2.2.2.2.2.2[n]? = some e → yspec Ms y.1.cls y.2.1 y.2.2.1 y.2.2.2.2.2.2.2 e.1 e.2.1 e.2.2.2.1 e.2.2.2.2.2.1 (y.2.2.2.2.2.2.2.drop (n + 1)) = true
def yQ (D : va_G) (cI cJ : ClassId) (ad : Nat → Nat) (n : Nat) (S' : yS) (A : Nat → Prop) : Array Value → State → Outcome → State → Prop := va_Qv (fun ad' : Nat → Nat => ∀ j, j < n → ad' j = ad j) (fun ad' t => va_P D vwCl (yW cI cJ ad' S') t.heap ∧ va_K D vwCl [(cI, .int), (cJ, .long)] t ∧ va_D A (yW cI cJ ad' S')) A
def yrm (d c n : Nat) : Room := { frames := d, cells := c, slots := n, locals := 40 * d }
def yMet (l : Launch) (D : va_G) (cI cJ : ClassId) (d : Nat) (y : zMeth) (q : Nat) (S S' : yS) (c n : Nat) : Prop := ∀ (ad : Nat → Nat) (sz : Nat),
  Met l y.1 (.code y.1 y.2.1 y.2.2.1 none :: zTb) (yrm d c n) (va_Pc [.ref (ad q)] (fun U => U.heap.size = sz ∧ va_P D vwCl (yW cI cJ ad S) U.heap ∧ va_K D vwCl [(cI, .int), (cJ, .long)] U ∧ va_D (fun _ => True) (yW cI cJ ad S) ∧ yNk U))
    (yQ D cI cJ ad S.1.length S' (va_A (yW cI cJ ad S) sz)) c n (va_A (yW cI cJ ad S) sz)
