/-! ONE INSTRUCTION. What a table must be for its code (zspec), and that a step of the small machine is a step of the machine. -/
/-- the words that hold of any state of the launch -/
def zTb : List Cond := lw_tbl.filter goodWord
def zwd (a b : Nat) (w : Cond) : Bool := match a with
  | 1 => goodWord w && decide (tables_1_1[b]? = some w)
  | 2 => goodWord w && decide (tables_1_2[b]? = some w)
  | 3 => goodWord w && decide (tables_1_3[b]? = some w)
  | 4 => goodWord w && decide (tables_1_4[b]? = some w)
  | 5 => goodWord w && decide (tables_1_5[b]? = some w)
  | 6 => goodWord w && decide (tables_1_6[b]? = some w)
  | _ => false
theorem zwd_ok {a b : Nat} {w : Cond} (h : zwd a b w = true) : w ∈ zTb := by
  have key : w ∈ tables_1 ∧ goodWord w = true := by
    unfold zwd at h
    unfold tables_1
    simp only [List.mem_append]
    split at h <;> first
      | (simp only [Bool.and_eq_true] at h
         have h1 := List.mem_of_getElem? (of_decide_eq_true h.2)
         exact ⟨by simp [h1], h.1⟩)
      | (cases h)
  refine List.mem_filter.mpr ⟨?_, key.2⟩
  unfold lw_tbl
  exact List.mem_append_right _ key.1
/-- the one call of a nest mate's private static method -/
def zNw : Cond := .methodLinkNest "ProtoOrders$Reader" 54 yX6_isKind "ProtoOrders"
def zNk (U : State) : Prop := va_Nw zNw U
theorem zNk.warm {s U : State} (hW : s.WarmedH U.vm) (h : zNk s) : zNk U := va_Nw.warmM hW h
def zfall (es : zT) (pc : Nat) : Bool := match es with
  | e :: _ => Nat.beq e.1 pc
  | [] => false
def ztgt (T : zT) (a : Nat) (pc : Nat) (off : Int) : Bool := match T[a]? with
  | some e => decide ((pc : Int) + off = (e.1 : Int))
  | none => false
def ztgts (T : zT) (pc : Nat) : List Nat → List Int → Bool
  | [], [] => true
  | a :: as, o :: os => ztgt T a pc o && ztgts T pc as os
  | _, _ => false
def zdec (b : ByteArray) (pc : Nat) (i : Instr) (n : Nat) : Bool := decide (decode b pc = .ok (i, n))
def zspec (Ms : List zMeth) (own : String) (b : ByteArray) (nL : Nat) (T : zT) (pc : Nat) (i : Instr) (v : Int32) (w : Int64) (aux : List Nat) (es : zT) : Bool := match i with
  | .iconst n => zdec b pc i 1 && zfall es (pc + 1) && decide (Int32.ofInt n = v)
  | .bipush n => zdec b pc i 2 && zfall es (pc + 2) && decide ((Int8.ofInt n).toInt32 = v)
  | .sipush n => zdec b pc i 3 && zfall es (pc + 3) && decide ((Int16.ofInt n).toInt32 = v)
  | .ldc x => zdec b pc i 2 && zfall es (pc + 2) && (match aux with
    | a1 :: a2 :: _ => zwd a1 a2 (.constant own x v)
    | _ => false)
  | .ldc_w x => zdec b pc i 3 && zfall es (pc + 3) && (match aux with
    | a1 :: a2 :: _ => zwd a1 a2 (.constant own x v)
    | _ => false)
  | .ldc2_w x => zdec b pc i 3 && zfall es (pc + 3) && (match aux with
    | a1 :: a2 :: _ => zwd a1 a2 (.constantLong own x w)
    | _ => false)
  | .lconst n => zdec b pc i 1 && zfall es (pc + 1) && decide (Int64.ofNat (n : Nat) = w)
  | .iload _ => zdec b pc i 2 && zfall es (pc + 2)
  | .aload _ => zdec b pc i 2 && zfall es (pc + 2)
  | .lload _ => zdec b pc i 2 && zfall es (pc + 2)
  | .istore x => zdec b pc i 2 && zfall es (pc + 2) && decide (x < nL)
  | .istore_n x => zdec b pc i 1 && zfall es (pc + 1) && decide ((x : Nat) < nL)
  | .iinc x n => zdec b pc i 3 && zfall es (pc + 3) && decide (Int32.ofInt n = v) && decide (x < nL)
  | .goto off => zdec b pc i 3 && (match aux with
    | a :: _ => ztgt T a pc off
    | _ => false)
  | .ifCond _ off => zdec b pc i 3 && zfall es (pc + 3) && (match aux with
    | a :: _ => ztgt T a pc off
    | _ => false)
  | .if_icmp _ off => zdec b pc i 3 && zfall es (pc + 3) && (match aux with
    | a :: _ => ztgt T a pc off
    | _ => false)
  | .tableswitch d lo hi offs => (match aux with
    | n :: a :: as => zdec b pc i n && decide (Int32.ofInt lo = v) && decide (lo + (offs.toList.length : Int) = hi + 1) && decide (-1000 ≤ lo) && decide (hi ≤ 1000) && ztgt T a pc d && ztgts T pc as offs.toList
    | _ => false)
  | .getfield x => zdec b pc i 3 && zfall es (pc + 3) && (match aux with
    | ci :: j :: a1 :: a2 :: _ => match vwCl[ci]? with
      | some q => decide (j < q.2.2) && decide ((q.2.1 j).1 = q.1) && zwd a1 a2 (.fieldLink own x q.1 (q.2.1 j).2.1 (q.2.1 j).2.2.1)
      | none => false
    | _ => false)
  | .putfield x => zdec b pc i 3 && zfall es (pc + 3) && (match aux with
    | ci :: j :: z :: a1 :: a2 :: _ => match vwCl[ci]? with
      | some q => decide (j < q.2.2) && decide ((q.2.1 j).1 = q.1) && decide ((q.2.1 j).2.2.2 = false) && zwd a1 a2 (.fieldLink own x q.1 (q.2.1 j).2.1 (q.2.1 j).2.2.1) && decide ((q.2.1 j).2.2.1 = if z = 0 then "I" else "Z")
      | none => false
    | _ => false)
  | .invokevirtual x => zdec b pc i 3 && zfall es (pc + 3) && (match aux with
    | m :: n :: r :: ci :: a1 :: a2 :: _ => match Ms[m]? with
      | some y => zwd a1 a2 (.methodLink own x y.1) && decide (y.2.2.2.2.1 = n) && decide (y.2.2.2.2.2.1 = false) && decide ((vwCl[ci]?).map (fun q => q.1) = some y.1.cls) && decide (r = y.2.2.2.2.2.2.1)
      | none => false
    | [] => true
    | _ => false)
  | .invokestatic x => zdec b pc i 3 && zfall es (pc + 3) && (match aux with
    | m :: n :: r :: z :: a1 :: a2 :: _ => match Ms[m]? with
      | some y => (if z = 0 then zwd a1 a2 (.methodLink own x y.1) else decide (Cond.methodLinkNest own x y.1 "ProtoOrders" = zNw)) && decide (y.2.2.2.2.1 = n) && decide (y.2.2.2.2.2.1 = true) && decide (r = y.2.2.2.2.2.2.1)
      | none => false
    | [a1, a2] => zwd a1 a2 (.methodLink own x arraycopyName)
    | _ => false)
  | .ireturn => zdec b pc i 1
  | .lreturn => zdec b pc i 1
  | .return_ => zdec b pc i 1
  | .new _ => true
  | .athrow => true
  | .invokespecial _ => true
  | _ => zdec b pc i 1 && zfall es (pc + 1)
/-- what holds of a method's table -/
def zmok (Ms : List zMeth) (y : zMeth) : Prop := plainFor y.1 = true ∧ (y.1.cls ≠ "java/lang/invoke/MethodHandle" ∧ y.1.cls ≠ "java/lang/invoke/VarHandle") ∧ Cond.code y.1 y.2.1 y.2.2.1 y.2.2.2.1 ∈ zTb ∧ Cond.initialized y.1.cls ∈ zTb ∧ (parseMethodDescriptor y.1.desc).map (fun d => d.parameters.length) = some y.2.2.2.2.1 ∧
  (if y.2.2.2.2.2.1 = true then Cond.static y.1 ∈ zTb else (Cond.instanceMethod y.1 ∈ zTb ∧ Cond.selects y.1.cls y.1 y.1 ∈ zTb)) ∧
  y.2.2.2.1 = (match y.2.2.2.2.2.2.1 with
    | 0 => none
    | 1 => some .int
    | 2 => some .long
    | _ => some .boolean) ∧ y.2.2.1 ≤ 10 ∧ ((y.2.2.2.2.2.2.2[0]?).map (fun e => e.1) = some 0) ∧ (∀ n e, y.2.2.2.2.2.2.2[n]? = some e → e.2.2.1 = 0 ∨ e.2.2.1 = n + 1) ∧
  ∀ n e, y.2.2.2.2.2.2.2[n]? = some e → zspec Ms y.1.cls y.2.1 y.2.2.1 y.2.2.2.2.2.2.2 e.1 e.2.1 e.2.2.2.1 e.2.2.2.2.1 e.2.2.2.2.2.1 (y.2.2.2.2.2.2.2.drop (n + 1)) = true
/-- by program: all rows of a table -/
def zall (Ms : List zMeth) (own : String) (b : ByteArray) (nL : Nat) (T : zT) : zT → Bool
  | [] => true
  | e :: es => zspec Ms own b nL T e.1 e.2.1 e.2.2.2.1 e.2.2.2.2.1 e.2.2.2.2.2.1 es && zall Ms own b nL T es
theorem zall_ok {Ms : List zMeth} {own : String} {b : ByteArray} {nL : Nat} {T : zT} : ∀ (es : zT), zall Ms own b nL T es = true → ∀ n e, es[n]? = some e → zspec Ms own b nL T e.1 e.2.1 e.2.2.2.1 e.2.2.2.2.1 e.2.2.2.2.2.1 (es.drop (n + 1)) = true
  | [], _, n, e, h => by simp at h
  | e0 :: es, ha, n, e, h => by
    simp only [zall, Bool.and_eq_true] at ha
    cases n with
    | zero =>
      simp only [List.getElem?_cons_zero, Option.some.injEq] at h
      subst h
      exact ha.1
    | succ n =>
      simp only [List.getElem?_cons_succ] at h
      exact zall_ok es ha.2 n e h
def zcuts : Nat → zT → Bool
  | _, [] => true
  | n, e :: es => (Nat.beq e.2.2.1 0 || Nat.beq e.2.2.1 (n + 1)) && zcuts (n + 1) es
theorem zcuts_ok : ∀ (es : zT) (b : Nat), zcuts b es = true → ∀ n e, es[n]? = some e → e.2.2.1 = 0 ∨ e.2.2.1 = b + n + 1
  | [], _, _, n, e, h => by simp at h
  | e0 :: es, b, ha, n, e, h => by
    simp only [zcuts, Bool.and_eq_true, Bool.or_eq_true] at ha
    cases n with
    | zero =>
      simp only [List.getElem?_cons_zero, Option.some.injEq] at h
      subst h
      rcases ha.1 with h1 | h1
      · exact Or.inl (Nat.eq_of_beq_eq_true h1)
      · exact Or.inr (Nat.eq_of_beq_eq_true h1)
    | succ n =>
      simp only [List.getElem?_cons_succ] at h
      have := zcuts_ok es (b + 1) ha.2 n e h
      omega
def zB (D : va_G) (cI cJ : ClassId) (ad : Nat → Nat) (sk : List zE) (A : Nat → Prop) (σ : zS) : Unit → State → Prop := fun _ t => va_P D vwCl (zW cI cJ ad sk σ) t.heap ∧ va_K D vwCl [(cI, .int), (cJ, .long)] t ∧ va_D A (zW cI cJ ad sk σ)
def zQ (D : va_G) (cI cJ : ClassId) (ad : Nat → Nat) (sk : List zE) (res : Option zV × zS) (A : Nat → Prop) : Array Value → State → Outcome → State → Prop := match res.1 with
  | none => va_Qv (fun _ : Unit => True) (zB D cI cJ ad sk A res.2) A
  | some (.inl x) => va_Qi (fun (r : Int32) (_ : Unit) => r = x) (zB D cI cJ ad sk A res.2) A
  | some (.inr (.inl x)) => va_Ql (fun (r : Int64) (_ : Unit) => r = x) (zB D cI cJ ad sk A res.2) A
  | some (.inr (.inr _)) => fun _ _ _ _ => False
def zMet (l : Launch) (D : va_G) (cI cJ : ClassId) (ad : Nat → Nat) (sk : List zE) (rm : Room) (y : zMeth) (as : List zV) (σ : zS) (res : Option zV × zS) : Prop := ∀ sz : Nat,
  Met l y.1 (.code y.1 y.2.1 y.2.2.1 y.2.2.2.1 :: zTb) rm (va_Pc (as.map (zc ad)) (fun U => U.heap.size = sz ∧ va_P D vwCl (zW cI cJ ad sk σ) U.heap ∧ va_K D vwCl [(cI, .int), (cJ, .long)] U ∧ va_D (fun _ => True) (zW cI cJ ad sk σ) ∧ zNk U))
    (zQ D cI cJ ad sk res (va_A (zW cI cJ ad sk σ) sz)) 0 0 (va_A (zW cI cJ ad sk σ) sz)
def zrm (d : Nat) : Room := { frames := d, cells := 0, slots := 0, locals := 40 * d }
set_option maxRecDepth 100000 in
theorem zu_0 : ∀ w ∈ u_ws RX0 TX0 4, w ∈ zTb := List.forall_mem_cons.mpr ⟨zwd_ok (a := 1) (b := 100) (by decide +kernel), List.forall_mem_cons.mpr ⟨zwd_ok (a := 1) (b := 102) (by decide +kernel), List.forall_mem_cons.mpr ⟨zwd_ok (a := 1) (b := 104) (by decide +kernel), List.forall_mem_cons.mpr ⟨zwd_ok (a := 1) (b := 106) (by decide +kernel), fun _ h => absurd h List.not_mem_nil⟩⟩⟩⟩
set_option maxRecDepth 100000 in
theorem zu_1 : ∀ w ∈ u_ws RX1 TX1 7, w ∈ zTb := List.forall_mem_cons.mpr ⟨zwd_ok (a := 1) (b := 215) (by decide +kernel), List.forall_mem_cons.mpr ⟨zwd_ok (a := 1) (b := 217) (by decide +kernel), List.forall_mem_cons.mpr ⟨zwd_ok (a := 1) (b := 219) (by decide +kernel), List.forall_mem_cons.mpr ⟨zwd_ok (a := 1) (b := 221) (by decide +kernel), List.forall_mem_cons.mpr ⟨zwd_ok (a := 1) (b := 223) (by decide +kernel), List.forall_mem_cons.mpr ⟨zwd_ok (a := 1) (b := 225) (by decide +kernel), List.forall_mem_cons.mpr ⟨zwd_ok (a := 1) (b := 227) (by decide +kernel), fun _ h => absurd h List.not_mem_nil⟩⟩⟩⟩⟩⟩⟩
set_option maxRecDepth 100000 in
theorem zu_2 : ∀ w ∈ u_ws RX2 TX2 6, w ∈ zTb := List.forall_mem_cons.mpr ⟨zwd_ok (a := 2) (b := 3) (by decide +kernel), List.forall_mem_cons.mpr ⟨zwd_ok (a := 2) (b := 5) (by decide +kernel), List.forall_mem_cons.mpr ⟨zwd_ok (a := 2) (b := 7) (by decide +kernel), List.forall_mem_cons.mpr ⟨zwd_ok (a := 2) (b := 9) (by decide +kernel), List.forall_mem_cons.mpr ⟨zwd_ok (a := 2) (b := 11) (by decide +kernel), List.forall_mem_cons.mpr ⟨zwd_ok (a := 2) (b := 13) (by decide +kernel), fun _ h => absurd h List.not_mem_nil⟩⟩⟩⟩⟩⟩
set_option maxRecDepth 100000 in
theorem zu_3 : ∀ w ∈ u_ws RX3 TX3 18, w ∈ zTb := List.forall_mem_cons.mpr ⟨zwd_ok (a := 1) (b := 133) (by decide +kernel), List.forall_mem_cons.mpr ⟨zwd_ok (a := 1) (b := 135) (by decide +kernel), List.forall_mem_cons.mpr ⟨zwd_ok (a := 1) (b := 137) (by decide +kernel), List.forall_mem_cons.mpr ⟨zwd_ok (a := 1) (b := 139) (by decide +kernel), List.forall_mem_cons.mpr ⟨zwd_ok (a := 1) (b := 141) (by decide +kernel), List.forall_mem_cons.mpr ⟨zwd_ok (a := 1) (b := 143) (by decide +kernel), List.forall_mem_cons.mpr ⟨zwd_ok (a := 1) (b := 145) (by decide +kernel), List.forall_mem_cons.mpr ⟨zwd_ok (a := 1) (b := 147) (by decide +kernel), List.forall_mem_cons.mpr ⟨zwd_ok (a := 1) (b := 149) (by decide +kernel), List.forall_mem_cons.mpr ⟨zwd_ok (a := 1) (b := 151) (by decide +kernel), List.forall_mem_cons.mpr ⟨zwd_ok (a := 1) (b := 153) (by decide +kernel), List.forall_mem_cons.mpr ⟨zwd_ok (a := 1) (b := 155) (by decide +kernel), List.forall_mem_cons.mpr ⟨zwd_ok (a := 1) (b := 157) (by decide +kernel), List.forall_mem_cons.mpr ⟨zwd_ok (a := 1) (b := 159) (by decide +kernel), List.forall_mem_cons.mpr ⟨zwd_ok (a := 1) (b := 161) (by decide +kernel), List.forall_mem_cons.mpr ⟨zwd_ok (a := 1) (b := 163) (by decide +kernel), List.forall_mem_cons.mpr ⟨zwd_ok (a := 1) (b := 165) (by decide +kernel), List.forall_mem_cons.mpr ⟨zwd_ok (a := 1) (b := 167) (by decide +kernel), fun _ h => absurd h List.not_mem_nil⟩⟩⟩⟩⟩⟩⟩⟩⟩⟩⟩⟩⟩⟩⟩⟩⟩⟩
set_option maxRecDepth 100000 in
theorem zu_4 : ∀ w ∈ u_ws RX4 TX4 3, w ∈ zTb := List.forall_mem_cons.mpr ⟨zwd_ok (a := 1) (b := 187) (by decide +kernel), List.forall_mem_cons.mpr ⟨zwd_ok (a := 1) (b := 189) (by decide +kernel), List.forall_mem_cons.mpr ⟨zwd_ok (a := 1) (b := 191) (by decide +kernel), fun _ h => absurd h List.not_mem_nil⟩⟩⟩
set_option maxRecDepth 100000 in
theorem zu_5 : ∀ w ∈ u_ws RX5 TX5 12, w ∈ zTb := List.forall_mem_cons.mpr ⟨zwd_ok (a := 1) (b := 62) (by decide +kernel), List.forall_mem_cons.mpr ⟨zwd_ok (a := 1) (b := 64) (by decide +kernel), List.forall_mem_cons.mpr ⟨zwd_ok (a := 1) (b := 66) (by decide +kernel), List.forall_mem_cons.mpr ⟨zwd_ok (a := 1) (b := 68) (by decide +kernel), List.forall_mem_cons.mpr ⟨zwd_ok (a := 1) (b := 70) (by decide +kernel), List.forall_mem_cons.mpr ⟨zwd_ok (a := 1) (b := 72) (by decide +kernel), List.forall_mem_cons.mpr ⟨zwd_ok (a := 1) (b := 74) (by decide +kernel), List.forall_mem_cons.mpr ⟨zwd_ok (a := 1) (b := 76) (by decide +kernel), List.forall_mem_cons.mpr ⟨zwd_ok (a := 1) (b := 78) (by decide +kernel), List.forall_mem_cons.mpr ⟨zwd_ok (a := 1) (b := 80) (by decide +kernel), List.forall_mem_cons.mpr ⟨zwd_ok (a := 1) (b := 82) (by decide +kernel), List.forall_mem_cons.mpr ⟨zwd_ok (a := 1) (b := 84) (by decide +kernel), fun _ h => absurd h List.not_mem_nil⟩⟩⟩⟩⟩⟩⟩⟩⟩⟩⟩⟩
set_option maxRecDepth 100000 in
theorem zu_6 : ∀ w ∈ u_ws RX6 TX6 11, w ∈ zTb := List.forall_mem_cons.mpr ⟨zwd_ok (a := 2) (b := 27) (by decide +kernel), List.forall_mem_cons.mpr ⟨zwd_ok (a := 2) (b := 29) (by decide +kernel), List.forall_mem_cons.mpr ⟨zwd_ok (a := 2) (b := 31) (by decide +kernel), List.forall_mem_cons.mpr ⟨zwd_ok (a := 2) (b := 33) (by decide +kernel), List.forall_mem_cons.mpr ⟨zwd_ok (a := 2) (b := 35) (by decide +kernel), List.forall_mem_cons.mpr ⟨zwd_ok (a := 2) (b := 37) (by decide +kernel), List.forall_mem_cons.mpr ⟨zwd_ok (a := 2) (b := 39) (by decide +kernel), List.forall_mem_cons.mpr ⟨zwd_ok (a := 2) (b := 41) (by decide +kernel), List.forall_mem_cons.mpr ⟨zwd_ok (a := 2) (b := 43) (by decide +kernel), List.forall_mem_cons.mpr ⟨zwd_ok (a := 2) (b := 45) (by decide +kernel), List.forall_mem_cons.mpr ⟨zwd_ok (a := 2) (b := 47) (by decide +kernel), fun _ h => absurd h List.not_mem_nil⟩⟩⟩⟩⟩⟩⟩⟩⟩⟩⟩
set_option maxRecDepth 100000 in
theorem zu_7 : ∀ w ∈ u_ws RX7 TX7 42, w ∈ zTb := List.forall_mem_cons.mpr ⟨zwd_ok (a := 4) (b := 179) (by decide +kernel), List.forall_mem_cons.mpr ⟨zwd_ok (a := 4) (b := 181) (by decide +kernel), List.forall_mem_cons.mpr ⟨zwd_ok (a := 4) (b := 183) (by decide +kernel), List.forall_mem_cons.mpr ⟨zwd_ok (a := 4) (b := 185) (by decide +kernel), List.forall_mem_cons.mpr ⟨zwd_ok (a := 4) (b := 187) (by decide +kernel), List.forall_mem_cons.mpr ⟨zwd_ok (a := 4) (b := 189) (by decide +kernel), List.forall_mem_cons.mpr ⟨zwd_ok (a := 4) (b := 191) (by decide +kernel), List.forall_mem_cons.mpr ⟨zwd_ok (a := 4) (b := 193) (by decide +kernel), List.forall_mem_cons.mpr ⟨zwd_ok (a := 4) (b := 195) (by decide +kernel), List.forall_mem_cons.mpr ⟨zwd_ok (a := 4) (b := 197) (by decide +kernel), List.forall_mem_cons.mpr ⟨zwd_ok (a := 4) (b := 199) (by decide +kernel), List.forall_mem_cons.mpr ⟨zwd_ok (a := 4) (b := 201) (by decide +kernel), List.forall_mem_cons.mpr ⟨zwd_ok (a := 4) (b := 203) (by decide +kernel), List.forall_mem_cons.mpr ⟨zwd_ok (a := 4) (b := 205) (by decide +kernel), List.forall_mem_cons.mpr ⟨zwd_ok (a := 4) (b := 207) (by decide +kernel), List.forall_mem_cons.mpr ⟨zwd_ok (a := 4) (b := 209) (by decide +kernel), List.forall_mem_cons.mpr ⟨zwd_ok (a := 4) (b := 211) (by decide +kernel), List.forall_mem_cons.mpr ⟨zwd_ok (a := 4) (b := 213) (by decide +kernel), List.forall_mem_cons.mpr ⟨zwd_ok (a := 4) (b := 215) (by decide +kernel), List.forall_mem_cons.mpr ⟨zwd_ok (a := 4) (b := 217) (by decide +kernel), List.forall_mem_cons.mpr ⟨zwd_ok (a := 4) (b := 219) (by decide +kernel), List.forall_mem_cons.mpr ⟨zwd_ok (a := 4) (b := 221) (by decide +kernel), List.forall_mem_cons.mpr ⟨zwd_ok (a := 4) (b := 223) (by decide +kernel), List.forall_mem_cons.mpr ⟨zwd_ok (a := 4) (b := 225) (by decide +kernel), List.forall_mem_cons.mpr ⟨zwd_ok (a := 4) (b := 227) (by decide +kernel), List.forall_mem_cons.mpr ⟨zwd_ok (a := 4) (b := 229) (by decide +kernel), List.forall_mem_cons.mpr ⟨zwd_ok (a := 4) (b := 231) (by decide +kernel), List.forall_mem_cons.mpr ⟨zwd_ok (a := 4) (b := 233) (by decide +kernel), List.forall_mem_cons.mpr ⟨zwd_ok (a := 4) (b := 235) (by decide +kernel), List.forall_mem_cons.mpr ⟨zwd_ok (a := 4) (b := 237) (by decide +kernel), List.forall_mem_cons.mpr ⟨zwd_ok (a := 4) (b := 239) (by decide +kernel), List.forall_mem_cons.mpr ⟨zwd_ok (a := 5) (b := 1) (by decide +kernel), List.forall_mem_cons.mpr ⟨zwd_ok (a := 5) (b := 3) (by decide +kernel), List.forall_mem_cons.mpr ⟨zwd_ok (a := 5) (b := 5) (by decide +kernel), List.forall_mem_cons.mpr ⟨zwd_ok (a := 5) (b := 7) (by decide +kernel), List.forall_mem_cons.mpr ⟨zwd_ok (a := 5) (b := 9) (by decide +kernel), List.forall_mem_cons.mpr ⟨zwd_ok (a := 5) (b := 11) (by decide +kernel), List.forall_mem_cons.mpr ⟨zwd_ok (a := 5) (b := 13) (by decide +kernel), List.forall_mem_cons.mpr ⟨zwd_ok (a := 5) (b := 15) (by decide +kernel), List.forall_mem_cons.mpr ⟨zwd_ok (a := 5) (b := 17) (by decide +kernel), List.forall_mem_cons.mpr ⟨zwd_ok (a := 5) (b := 19) (by decide +kernel), List.forall_mem_cons.mpr ⟨zwd_ok (a := 5) (b := 21) (by decide +kernel), fun _ h => absurd h List.not_mem_nil⟩⟩⟩⟩⟩⟩⟩⟩⟩⟩⟩⟩⟩⟩⟩⟩⟩⟩⟩⟩⟩⟩⟩⟩⟩⟩⟩⟩⟩⟩⟩⟩⟩⟩⟩⟩⟩⟩⟩⟩⟩⟩
theorem ztbl_in : ∀ (ci : Nat) (q : vw_C), vwCl[ci]? = some q → (∀ w ∈ u_ws q.1 q.2.1 q.2.2, w ∈ zTb) ∧ ∃ ty : Nat → FieldType, (∀ k, k < q.2.2 → parseFieldDescriptor (q.2.1 k).2.2.1 = some (ty k)) ∧ ∀ a, a < q.2.2 → ∀ b, b < q.2.2 → a ≠ b → (q.2.1 a).2.1 ≠ (q.2.1 b).2.1 := by
  intro ci q h
  match ci, h with
  | 0, h => cases h; exact ⟨zu_0, tyX0, tyX0_ok, nmX0⟩
  | 1, h => cases h; exact ⟨zu_1, tyX1, tyX1_ok, nmX1⟩
  | 2, h => cases h; exact ⟨zu_2, tyX2, tyX2_ok, nmX2⟩
  | 3, h => cases h; exact ⟨zu_3, tyX3, tyX3_ok, nmX3⟩
  | 4, h => cases h; exact ⟨zu_4, tyX4, tyX4_ok, nmX4⟩
  | 5, h => cases h; exact ⟨zu_5, tyX5, tyX5_ok, nmX5⟩
  | 6, h => cases h; exact ⟨zu_6, tyX6, tyX6_ok, nmX6⟩
  | 7, h => cases h; exact ⟨zu_7, tyX7, tyX7_ok, nmX7⟩
  | n + 8, h => simp [vwCl] at h
theorem ztbl_good : ∀ w ∈ zTb, (w.onTables && w.keeps) = true ∨ ∃ ty, w = .arrayClass ty := fun _ hw => good_of_word (List.mem_filter.mp hw).2
