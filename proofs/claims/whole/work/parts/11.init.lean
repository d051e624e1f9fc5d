/-! CONSTRUCTORS: a small machine that makes cells. A field: none an int, some none null, some (some q) the cell at place q. -/
abbrev yE : Type := Nat ⊕ (Nat ⊕ (Nat × List (Option (Option Nat))))
abbrev yS : Type := List yE × zS
abbrev yR : Type := Option (yS × Nat × Nat)
abbrev yK : Type := zT → zL → List zV → yS → yR
def yadd (c n : Nat) : yR → yR
  | some r => some (r.1, c + r.2.1, n + r.2.2)
  | none => none
def yzero (σ : zS) (q : Nat) : zS := (fun a j => if a = q then 0 else σ.1 a j, fun a j => if a = q then 0 else σ.2 a j)
def yfill (σ : zS) (q n : Nat) (v : Int32) : zS := (fun a j => if a = q then (if j < n then v else σ.1 a j) else σ.1 a j, σ.2)
def yraw (bs : List Nat) : List (Option (Option Nat)) := bs.map (fun b => match b with
  | 0 => none
  | _ => some none)
/-- all references are to cells that are there -/
def yinV (n : Nat) : zV → Bool
  | .inr (.inr q) => Nat.blt q n
  | _ => true
def yinO (n : Nat) : Option zV → Bool
  | some v => yinV n v
  | none => true
def yinE (n : Nat) : yE → Bool
  | .inr (.inr o) => o.2.all (fun f => match f with
    | some (some q) => Nat.blt q n
    | _ => true)
  | _ => true
def yin (S : yS) (lo : zL) (k : List zV) : Bool := lo.all (yinO S.1.length) && k.all (yinV S.1.length) && S.1.all (yinE S.1.length)
def ygd (b : Bool) (r : yR) : yR := match b with
  | true => r
  | false => none
def ystep (C : Nat → Nat → yS → yR) (T : zT) (K : yK) (i : Instr) (v : Int32) (aux : List Nat) (es : zT) (lo : zL) (k : List zV) (S : yS) : yR := match i with
  | .aload_n i => match lo[i.val]? with
    | some (some (.inr (.inr x))) => K es lo (.inr (.inr x) :: k) S
    | _ => none
  | .iload_n i => match lo[i.val]? with
    | some (some (.inl x)) => K es lo (.inl x :: k) S
    | _ => none
  | .iconst _ => K es lo (.inl v :: k) S
  | .bipush _ => K es lo (.inl v :: k) S
  | .sipush _ => K es lo (.inl v :: k) S
  | .istore_n i => match k with
    | .inl x :: k => ygd (zfree lo i.val) (K es (lo.set i.val (some (.inl x))) k S)
    | _ => none
  | .iinc i _ => match lo[i]? with
    | some (some (.inl x)) => ygd (zfree lo i) (K es (lo.set i (some (.inl (x + v)))) k S)
    | _ => none
  | .if_icmp .ge _ => match k, aux with
    | .inl y :: .inl x :: k, a :: _ => if y ≤ x then K (T.drop a) lo k S else K es lo k S
    | _, _ => none
  | .goto _ => match aux with
    | a :: _ => K (T.drop a) lo k S
    | _ => none
  | .dup => match k with
    | .inr (.inr x) :: k => K es lo (.inr (.inr x) :: .inr (.inr x) :: k) S
    | _ => none
  | .new _ => match aux with
    | ci :: N :: _ :: _ :: _ :: _ :: _ :: _ :: bs => ygd (yin S lo k) (yadd 1 N (K es lo (.inr (.inr S.1.length) :: k) (S.1 ++ [.inr (.inr (ci, yraw bs))], yzero S.2 S.1.length)))
    | _ => none
  | .newarray t => match k with
    | .inl n :: k => match t with
      | .int => ygd (yin S lo k) (if n < 0 ∨ 100000 < n.toNatClampNeg then none else yadd 1 n.toNatClampNeg (K es lo (.inr (.inr S.1.length) :: k) (S.1 ++ [.inl n.toNatClampNeg], yzero S.2 S.1.length)))
      | .long => ygd (yin S lo k) (if n < 0 ∨ 10000 < n.toNatClampNeg then none else yadd 1 n.toNatClampNeg (K es lo (.inr (.inr S.1.length) :: k) (S.1 ++ [.inr (.inl n.toNatClampNeg)], yzero S.2 S.1.length)))
      | _ => none
    | _ => none
  | .putfield _ => match aux with
    | ci :: j :: bk :: _ => match k with
      | .inl x :: .inr (.inr q) :: k => match S.1[q]? with
        | some (.inr (.inr (c, fs))) => ygd (Nat.beq c ci && Nat.beq bk 0) (match fs[j]? with
          | some none => K es lo k (S.1, zs S.2 q j x)
          | _ => none)
        | _ => none
      | .inr (.inr r) :: .inr (.inr q) :: k => match S.1[q]? with
        | some (.inr (.inr (c, fs))) => ygd (Nat.beq c ci && Nat.beq bk 1) (match fs[j]? with
          | some (some _) => K es lo k (S.1.set q (.inr (.inr (ci, fs.set j (some (some r))))), S.2)
          | _ => none)
        | _ => none
      | _ => none
    | _ => none
  | .getfield _ => match aux with
    | ci :: j :: _ => match k with
      | .inr (.inr q) :: k => match S.1[q]? with
        | some (.inr (.inr (c, fs))) => ygd (Nat.beq c ci) (match fs[j]? with
          | some (some (some r)) => K es lo (.inr (.inr r) :: k) S
          | _ => none)
        | _ => none
      | _ => none
    | _ => none
  | .iastore => match k with
    | .inl x :: .inl i :: .inr (.inr q) :: k => match S.1[q]? with
      | some (.inl n) => if i < 0 ∨ n ≤ i.toNatClampNeg then none else K es lo k (S.1, zs S.2 q i.toNatClampNeg x)
      | _ => none
    | _ => none
  | .invokespecial _ => match aux with
    | 0 :: _ => match k with
      | .inr (.inr _) :: k => ygd (Nat.ble ((k.map zw).sum) 8) (K es lo k S)
      | _ => none
    | _ :: m :: _ => match k with
      | .inr (.inr q) :: k => ygd (Nat.ble ((k.map zw).sum) 8 && yin S lo k) (match C m q S with
        | some r => ygd (Nat.ble S.1.length r.1.1.length) (yadd r.2.1 r.2.2 (K es lo k r.1))
        | none => none)
      | _ => none
    | _ => none
  | .invokestatic _ => match k with
    | .inl x :: .inr (.inr q) :: k => ygd (Nat.ble ((k.map zw).sum) 8) (match S.1[q]? with
      | some (.inl 8) => K es lo k (S.1, yfill S.2 q 8 x)
      | _ => none)
    | _ => none
  | .return_ => match k with
    | [] => some (S, 0, 0)
    | _ => none
  | _ => none
def yrun (C : Nat → Nat → yS → yR) (T : zT) : Nat → yK
  | 0 => fun _ _ _ _ => none
  | g + 1 => fun es lo k S => match es with
    | [] => none
    | e :: es => ystep C T (yrun C T g) e.2.1 e.2.2.2.1 e.2.2.2.2.2.1 es lo k S
def ycall (Ms : List zMeth) : Nat → Nat → Nat → yS → yR
  | 0 => fun _ _ _ => none
  | d + 1 => fun m q S => match Ms[m]? with
    | some (_, _, nL, _, _, _, _, T) => match nL with
      | 0 => none
      | n + 1 => yrun (ycall Ms d) T 500 T (some (.inr (.inr q)) :: List.replicate n none) [] S
    | none => none
