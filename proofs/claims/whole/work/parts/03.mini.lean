/-! THE SMALL MACHINE: values, states, one instruction, a run from cut to cut, calls by depth. A cell is named by its place; what the cells are (zE) never changes. -/
abbrev zV : Type := Int32 ⊕ (Int64 ⊕ Nat)
abbrev zS : Type := (Nat → Nat → Int32) × (Nat → Nat → Int64)
abbrev zR : Type := Option (Option zV × zS)
abbrev zE : Type := Nat ⊕ (Nat ⊕ (Nat × List (Option Nat)))
abbrev zL : Type := List (Option zV)
abbrev zEnt : Type := Nat × Instr × Nat × Int32 × Int64 × List Nat × List Nat
abbrev zT : Type := List zEnt
abbrev zK : Type := zT → zL → List zV → zS → zR
def zup {α : Type} (f : Nat → Nat → α) (k j : Nat) (v : α) : Nat → Nat → α := fun a b => if a = k then (if b = j then v else f a b) else f a b
def zg (σ : zS) (k j : Nat) : Int32 := σ.1 k j
def zs (σ : zS) (k j : Nat) (v : Int32) : zS := (zup σ.1 k j v, σ.2)
def zgl (σ : zS) (k j : Nat) : Int64 := σ.2 k j
def zsl (σ : zS) (k j : Nat) (v : Int64) : zS := (σ.1, zup σ.2 k j v)
def zcp {α : Type} (f : Nat → Nat → α) (a b sp dp n : Nat) : Nat → Nat → α := fun c j => if c = b then va_cpy (f a) (f b) sp dp n j else f c j
/-- copying between arrays of ints, of longs -/
def zsc (σ : zS) (a b sp dp n : Nat) : zS := (zcp σ.1 a b sp dp n, σ.2)
def zslc (σ : zS) (a b sp dp n : Nat) : zS := (σ.1, zcp σ.2 a b sp dp n)
def zin (i : Int32) (n : Nat) (r : zR) : zR := if i < 0 ∨ n ≤ i.toNatClampNeg then none else r
def zne (y : Int32) (r : zR) : zR := if y = 0 then none else r
def zbo (y : Int32) (r : zR) : zR := if y = 0 ∨ y = 1 then r else none
def zcpin (sp dp n : Int32) (n0 n1 : Nat) (r : zR) : zR := if sp < 0 ∨ dp < 0 ∨ n < 0 ∨ n0 < sp.toNatClampNeg + n.toNatClampNeg ∨ n1 < dp.toNatClampNeg + n.toNatClampNeg then none else r
def zcV (x : zR) (k : zS → zR) : zR := match x with
  | some (none, σ) => k σ
  | _ => none
def zcI (x : zR) (k : Int32 → zS → zR) : zR := match x with
  | some (some (.inl r), σ) => k r σ
  | _ => none
def zcJ (x : zR) (k : Int64 → zS → zR) : zR := match x with
  | some (some (.inr (.inl r)), σ) => k r σ
  | _ => none
def zw : zV → Nat
  | .inr (.inl _) => 2
  | _ => 1
def z1 (f : Int32 → Int32) (K : zK) (es : zT) (l : zL) (k : List zV) (σ : zS) : zR := match k with
  | .inl x :: k => K es l (.inl (f x) :: k) σ
  | _ => none
def z2 (f : Int32 → Int32 → Int32) (K : zK) (es : zT) (l : zL) (k : List zV) (σ : zS) : zR := match k with
  | .inl y :: .inl x :: k => K es l (.inl (f x y) :: k) σ
  | _ => none
def zl2 (f : Int64 → Int64 → Int64) (K : zK) (es : zT) (l : zL) (k : List zV) (σ : zS) : zR := match k with
  | .inr (.inl y) :: .inr (.inl x) :: k => K es l (.inr (.inl (f x y)) :: k) σ
  | _ => none
def zldI (i : Nat) (K : zK) (es : zT) (l : zL) (k : List zV) (σ : zS) : zR := match l[i]? with
  | some (some (.inl x)) => K es l (.inl x :: k) σ
  | _ => none
def zldJ (i : Nat) (K : zK) (es : zT) (l : zL) (k : List zV) (σ : zS) : zR := match l[i]? with
  | some (some (.inr (.inl x))) => K es l (.inr (.inl x) :: k) σ
  | _ => none
def zldA (i : Nat) (K : zK) (es : zT) (l : zL) (k : List zV) (σ : zS) : zR := match l[i]? with
  | some (some (.inr (.inr x))) => K es l (.inr (.inr x) :: k) σ
  | _ => none
/-- no long stands just ahead -/
def zfree (l : zL) (i : Nat) : Bool := match i with
  | 0 => true
  | j + 1 => match l[j]? with
    | some (some (.inr (.inl _))) => false
    | _ => true
def zst (i : Nat) (K : zK) (es : zT) (l : zL) (k : List zV) (σ : zS) : zR := match k with
  | .inl x :: k => match zfree l i with
    | true => K es (l.set i (some (.inl x))) k σ
    | false => none
  | _ => none
def zinc (i : Nat) (v : Int32) (K : zK) (es : zT) (l : zL) (k : List zV) (σ : zS) : zR := match l[i]? with
  | some (some (.inl x)) => match zfree l i with
    | true => K es (l.set i (some (.inl (x + v)))) k σ
    | false => none
  | _ => none
def zif1 (c : Int32 → Prop) [DecidablePred c] (T : zT) (aux : List Nat) (K : zK) (es : zT) (l : zL) (k : List zV) (σ : zS) : zR := match k, aux with
  | .inl x :: k, a :: _ => if c x then K (T.drop a) l k σ else K es l k σ
  | _, _ => none
def zif2 (c : Int32 → Int32 → Prop) [∀ x y, Decidable (c x y)] (T : zT) (aux : List Nat) (K : zK) (es : zT) (l : zL) (k : List zV) (σ : zS) : zR := match k, aux with
  | .inl y :: .inl x :: k, a :: _ => if c x y then K (T.drop a) l k σ else K es l k σ
  | _, _ => none
/-- a switch: by its places lo, lo + 1, ..; else the first -/
def zsw (x : Int32) (v : Int32) (T : zT) (K : zK) (l : zL) (k : List zV) (σ : zS) (d : Nat) : List Nat → zR
  | [] => K (T.drop d) l k σ
  | a :: as => if x = v then K (T.drop a) l k σ else zsw x (v + 1) T K l k σ d as
def zgetf (sk : List zE) (K : zK) (aux : List Nat) (es : zT) (l : zL) (k : List zV) (σ : zS) : zR := match k, aux with
  | .inr (.inr q) :: k, ci :: j :: _ => match sk[q]? with
    | some (.inr (.inr (c, fs))) => match Nat.beq c ci with
      | true => match fs[j]? with
        | some none => K es l (.inl (zg σ q j) :: k) σ
        | some (some r) => K es l (.inr (.inr r) :: k) σ
        | none => none
      | false => none
    | _ => none
  | _, _ => none
def zputf (sk : List zE) (K : zK) (aux : List Nat) (es : zT) (l : zL) (k : List zV) (σ : zS) : zR := match k, aux with
  | .inl x :: .inr (.inr q) :: k, ci :: j :: b :: _ => match sk[q]? with
    | some (.inr (.inr (c, fs))) => match Nat.beq c ci with
      | true => match fs[j]? with
        | some none => match b with
          | 0 => K es l k (zs σ q j x)
          | _ => zbo x (K es l k (zs σ q j x))
        | _ => none
      | false => none
    | _ => none
  | _, _ => none
def ziald (sk : List zE) (K : zK) (es : zT) (l : zL) (k : List zV) (σ : zS) : zR := match k with
  | .inl i :: .inr (.inr q) :: k => match sk[q]? with
    | some (.inl n) => zin i n (K es l (.inl (zg σ q i.toNatClampNeg) :: k) σ)
    | _ => none
  | _ => none
def ziast (sk : List zE) (K : zK) (es : zT) (l : zL) (k : List zV) (σ : zS) : zR := match k with
  | .inl x :: .inl i :: .inr (.inr q) :: k => match sk[q]? with
    | some (.inl n) => zin i n (K es l k (zs σ q i.toNatClampNeg x))
    | _ => none
  | _ => none
def zlald (sk : List zE) (K : zK) (es : zT) (l : zL) (k : List zV) (σ : zS) : zR := match k with
  | .inl i :: .inr (.inr q) :: k => match sk[q]? with
    | some (.inr (.inl n)) => zin i n (K es l (.inr (.inl (zgl σ q i.toNatClampNeg)) :: k) σ)
    | _ => none
  | _ => none
def zlast (sk : List zE) (K : zK) (es : zT) (l : zL) (k : List zV) (σ : zS) : zR := match k with
  | .inr (.inl x) :: .inl i :: .inr (.inr q) :: k => match sk[q]? with
    | some (.inr (.inl n)) => zin i n (K es l k (zsl σ q i.toNatClampNeg x))
    | _ => none
  | _ => none
def zalen (sk : List zE) (K : zK) (es : zT) (l : zL) (k : List zV) (σ : zS) : zR := match k with
  | .inr (.inr q) :: k => match sk[q]? with
    | some (.inl n) => K es l (.inl (Int32.ofNat n) :: k) σ
    | some (.inr (.inl n)) => K es l (.inl (Int32.ofNat n) :: k) σ
    | _ => none
  | _ => none
/-- a call of method m with n arguments (its receiver too); rk: what comes back -/
def zinv (C : Nat → List zV → zS → zR) (K : zK) (m n rk : Nat) (es : zT) (l : zL) (k : List zV) (σ : zS) : zR :=
  match Nat.ble n k.length && Nat.ble (((k.drop n).map zw).sum) 8 with
  | true => match rk with
    | 0 => zcV (C m (k.take n).reverse σ) (fun σ => K es l (k.drop n) σ)
    | 2 => zcJ (C m (k.take n).reverse σ) (fun r σ => K es l (.inr (.inl r) :: k.drop n) σ)
    | _ => zcI (C m (k.take n).reverse σ) (fun r σ => K es l (.inl r :: k.drop n) σ)
  | false => none
/-- the receiver is of class ci -/
def zrecv (sk : List zE) (ci n : Nat) (k : List zV) : Bool := match k.drop n with
  | .inr (.inr q) :: _ => match sk[q]? with
    | some (.inr (.inr (c, _))) => Nat.beq c ci
    | _ => false
  | _ => false
def zcopy (sk : List zE) (K : zK) (es : zT) (l : zL) (k : List zV) (σ : zS) : zR := match k with
  | .inl n :: .inl dp :: .inr (.inr b) :: .inl sp :: .inr (.inr a) :: k => match Nat.ble ((k.map zw).sum) 8 with
    | true => match sk[a]?, sk[b]? with
      | some (.inl n0), some (.inl n1) => zcpin sp dp n n0 n1 (K es l k (zsc σ a b sp.toNatClampNeg dp.toNatClampNeg n.toNatClampNeg))
      | some (.inr (.inl n0)), some (.inr (.inl n1)) => zcpin sp dp n n0 n1 (K es l k (zslc σ a b sp.toNatClampNeg dp.toNatClampNeg n.toNatClampNeg))
      | _, _ => none
    | false => none
  | _ => none
def zstep (sk : List zE) (C : Nat → List zV → zS → zR) (T : zT) (rk : Nat) (K : zK) (i : Instr) (v : Int32) (w : Int64) (aux : List Nat) (es : zT) (l : zL) (k : List zV) (σ : zS) : zR := match i with
  | .iconst _ => K es l (.inl v :: k) σ
  | .bipush _ => K es l (.inl v :: k) σ
  | .sipush _ => K es l (.inl v :: k) σ
  | .ldc _ => K es l (.inl v :: k) σ
  | .ldc_w _ => K es l (.inl v :: k) σ
  | .lconst _ => K es l (.inr (.inl w) :: k) σ
  | .ldc2_w _ => K es l (.inr (.inl w) :: k) σ
  | .iload_n i => zldI i.val K es l k σ
  | .aload_n i => zldA i.val K es l k σ
  | .lload_n i => zldJ i.val K es l k σ
  | .iload i => zldI i K es l k σ
  | .aload i => zldA i K es l k σ
  | .lload i => zldJ i K es l k σ
  | .istore_n i => zst i.val K es l k σ
  | .istore i => zst i K es l k σ
  | .iinc i _ => zinc i v K es l k σ
  | .iadd => z2 (· + ·) K es l k σ
  | .isub => z2 (· - ·) K es l k σ
  | .imul => z2 (· * ·) K es l k σ
  | .iand => z2 (· &&& ·) K es l k σ
  | .ior => z2 (· ||| ·) K es l k σ
  | .ixor => z2 (· ^^^ ·) K es l k σ
  | .ishl => z2 (fun x y => x <<< (y &&& 31)) K es l k σ
  | .ishr => z2 (fun x y => x >>> (y &&& 31)) K es l k σ
  | .iushr => z2 (fun x y => (x.toUInt32 >>> (y.toUInt32 &&& Int32.toUInt32 31)).toInt32) K es l k σ
  | .irem => match k with
    | .inl y :: .inl x :: k => zne y (K es l (.inl (x - x / y * y) :: k) σ)
    | _ => none
  | .ineg => z1 (fun x => -x) K es l k σ
  | .i2b => z1 (fun x => x.toInt8.toInt32) K es l k σ
  | .i2s => z1 (fun x => x.toInt16.toInt32) K es l k σ
  | .i2l => match k with
    | .inl x :: k => K es l (.inr (.inl x.toInt64) :: k) σ
    | _ => none
  | .l2i => match k with
    | .inr (.inl x) :: k => K es l (.inl x.toInt32 :: k) σ
    | _ => none
  | .ladd => zl2 (· + ·) K es l k σ
  | .lmul => zl2 (· * ·) K es l k σ
  | .lcmp => match k with
    | .inr (.inl y) :: .inr (.inl x) :: k => K es l (.inl (lg_cmp x y) :: k) σ
    | _ => none
  | .dup => match k with
    | .inl x :: k => K es l (.inl x :: .inl x :: k) σ
    | .inr (.inr x) :: k => K es l (.inr (.inr x) :: .inr (.inr x) :: k) σ
    | _ => none
  | .pop => match k with
    | .inl _ :: k => K es l k σ
    | _ => none
  | .dup_x1 => match k with
    | .inl x :: .inr (.inr y) :: k => K es l (.inl x :: .inr (.inr y) :: .inl x :: k) σ
    | .inl x :: .inl y :: k => K es l (.inl x :: .inl y :: .inl x :: k) σ
    | _ => none
  | .dup2 => match k with
    | .inl x :: .inr (.inr y) :: k => K es l (.inl x :: .inr (.inr y) :: .inl x :: .inr (.inr y) :: k) σ
    | _ => none
  | .goto _ => match aux with
    | a :: _ => K (T.drop a) l k σ
    | _ => none
  | .ifCond .eq _ => zif1 (fun x => x = 0) T aux K es l k σ
  | .ifCond .ne _ => zif1 (fun x => ¬ x = 0) T aux K es l k σ
  | .ifCond .lt _ => zif1 (fun x => x < 0) T aux K es l k σ
  | .ifCond .ge _ => zif1 (fun x => 0 ≤ x) T aux K es l k σ
  | .ifCond .gt _ => zif1 (fun x => 0 < x) T aux K es l k σ
  | .ifCond .le _ => zif1 (fun x => x ≤ 0) T aux K es l k σ
  | .if_icmp .eq _ => zif2 (fun x y => x = y) T aux K es l k σ
  | .if_icmp .ne _ => zif2 (fun x y => ¬ x = y) T aux K es l k σ
  | .if_icmp .lt _ => zif2 (fun x y => x < y) T aux K es l k σ
  | .if_icmp .ge _ => zif2 (fun x y => y ≤ x) T aux K es l k σ
  | .if_icmp .gt _ => zif2 (fun x y => y < x) T aux K es l k σ
  | .if_icmp .le _ => zif2 (fun x y => x ≤ y) T aux K es l k σ
  | .tableswitch _ _ _ _ => match k, aux with
    | .inl x :: k, _ :: d :: as => zsw x v T K l k σ d as
    | _, _ => none
  | .getfield _ => zgetf sk K aux es l k σ
  | .putfield _ => zputf sk K aux es l k σ
  | .iaload => ziald sk K es l k σ
  | .iastore => ziast sk K es l k σ
  | .laload => zlald sk K es l k σ
  | .lastore => zlast sk K es l k σ
  | .arraylength => zalen sk K es l k σ
  | .invokevirtual _ => match aux with
    | m :: n :: r :: ci :: _ => match zrecv sk ci n k with
      | true => zinv C K m (n + 1) r es l k σ
      | false => none
    | _ => none
  | .invokestatic _ => match aux with
    | m :: n :: r :: _ :: _ => zinv C K m n r es l k σ
    | _ => zcopy sk K es l k σ
  | .ireturn => match k with
    | [.inl x] => match rk with
      | 1 => some (some (.inl x), σ)
      | 3 => zbo x (some (some (.inl x), σ))
      | _ => none
    | _ => none
  | .lreturn => match k with
    | [.inr (.inl x)] => match rk with
      | 2 => some (some (.inr (.inl x)), σ)
      | _ => none
    | _ => none
  | .return_ => match k with
    | [] => match rk with
      | 0 => some (none, σ)
      | _ => none
    | _ => none
  | _ => none
/-- locals that are not read any more are forgotten at a cut -/
def zmask : List Nat → zL → zL
  | [], l => l
  | i :: is, l => zmask is (l.set i none)
def zline (sk : List zE) (C : Nat → List zV → zS → zR) (J : Nat → zL → List zV → zS → zR) (T : zT) (rk : Nat) : Nat → zK
  | 0 => fun _ _ _ _ => none
  | g + 1 => fun es l k σ => match es with
    | [] => none
    | e :: es => zstep sk C T rk (fun es' l' k' σ' => match es' with
      | [] => none
      | e' :: _ => match e'.2.2.1 with
        | 0 => zline sk C J T rk g es' l' k' σ'
        | o + 1 => J o (zmask e'.2.2.2.2.2.2 l') k' σ') e.2.1 e.2.2.2.1 e.2.2.2.2.1 e.2.2.2.2.2.1 es l k σ
def zexec (sk : List zE) (C : Nat → List zV → zS → zR) (T : zT) (rk : Nat) : Nat → Nat → zL → List zV → zS → zR
  | 0 => fun _ _ _ _ => none
  | n + 1 => fun o l k σ => zline sk C (zexec sk C T rk n) T rk 500 (T.drop o) l k σ
/-- a method: its name, code, locals, answer, number of parameters, static or not, answer's kind, table -/
abbrev zMeth : Type := MethodName × ByteArray × Nat × Option FieldType × Nat × Bool × Nat × zT
def zargs : List zV → zL
  | [] => []
  | .inr (.inl y) :: vs => some (.inr (.inl y)) :: none :: zargs vs
  | v :: vs => some v :: zargs vs
def zfill (n : Nat) (l : zL) : zL := l ++ List.replicate (n - l.length) none
def zN : Nat := 20000
def zcall (Ms : List zMeth) (sk : List zE) : Nat → Nat → List zV → zS → zR
  | 0 => fun _ _ _ => none
  | d + 1 => fun m as σ => match Ms[m]? with
    | some (_, _, nL, _, _, _, rk, T) => match Nat.ble (zargs as).length nL with
      | true => zexec sk (zcall Ms sk d) T rk zN 0 (zfill nL (zargs as)) [] σ
      | false => none
    | none => none
