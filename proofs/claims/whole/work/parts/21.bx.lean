/-! THE BODIES: each stretch from cut to cut as a term, by program (wip/whole/gen.py) -/
def bX_X_row_0 (C : Nat → List zV → zS → zR) (J : Nat → zL → List zV → zS → zR) (x1 : Int32) (x2 : Int32) (x3 : Int32) (s : zS) : zR :=
  zcI (C 47 [.inr (.inr 32), .inl x1] s) fun r102 s101 =>
  if ¬ r102 = 0 then (
    if 0 ≤ x3 then (
      if x2 < 0 then (
        zcI (C 117 [.inr (.inr 0), .inl (-6 : Int32)] s101) fun r104 s103 =>
        some (some (.inl r104), s103))
      else (
        if x2 < (4 : Int32) then (
          if x3 ≤ (160 : Int32) then (
            zcV (C 52 [.inr (.inr 32), .inl x1, .inl x2, .inl x3] s101) fun s105 =>
            some (some (.inl (1 : Int32)), s105))
          else (
            zcI (C 117 [.inr (.inr 0), .inl (-7 : Int32)] s101) fun r107 s106 =>
            some (some (.inl r107), s106)))
        else (
          zcI (C 117 [.inr (.inr 0), .inl (-6 : Int32)] s101) fun r109 s108 =>
          some (some (.inl r109), s108))))
    else (
      zcI (C 117 [.inr (.inr 0), .inl (-4 : Int32)] s101) fun r111 s110 =>
      some (some (.inl r111), s110)))
  else (
    zcI (C 117 [.inr (.inr 0), .inl (-1 : Int32)] s101) fun r113 s112 =>
    some (some (.inl r113), s112))
set_option maxRecDepth 100000 in
set_option maxHeartbeats 4000000 in
theorem bX_X_row_0_e (C : Nat → List zV → zS → zR) (J : Nat → zL → List zV → zS → zR) (x1 : Int32) (x2 : Int32) (x3 : Int32) (s : zS) : zline skX C J zT_X_row 1 500 (zT_X_row.drop 0) [some (.inr (.inr 0)), some (.inl x1), some (.inl x2), some (.inl x3)] [] s = bX_X_row_0 C J x1 x2 x3 s := rfl
def bX_H_isShelf_0 (C : Nat → List zV → zS → zR) (J : Nat → zL → List zV → zS → zR) (x1 : Int32) (s : zS) : zR :=
  if x1 < 0 then (
    zbo (0 : Int32) <|
    some (some (.inl (0 : Int32)), s))
  else (
    if (8 : Int32) ≤ x1 then (
      zbo (0 : Int32) <|
      some (some (.inl (0 : Int32)), s))
    else (
      zbo (1 : Int32) <|
      some (some (.inl (1 : Int32)), s)))
set_option maxRecDepth 100000 in
set_option maxHeartbeats 4000000 in
theorem bX_H_isShelf_0_e (C : Nat → List zV → zS → zR) (J : Nat → zL → List zV → zS → zR) (x1 : Int32) (s : zS) : zline skX C J zT_H_isShelf 3 500 (zT_H_isShelf.drop 0) [some (.inr (.inr 32)), some (.inl x1)] [] s = bX_H_isShelf_0 C J x1 s := rfl
def bX_H_lay_0 (C : Nat → List zV → zS → zR) (J : Nat → zL → List zV → zS → zR) (x1 : Int32) (x2 : Int32) (x3 : Int32) (s : zS) : zR :=
  zin x1 8 <|
  let s101 : zS := zs s 33 (Int32.toNatClampNeg x1) ((100 : Int32) + x2)
  zin x1 8 <|
  let s102 : zS := zs s101 34 (Int32.toNatClampNeg x1) x3
  zcV (C 219 [.inr (.inr 35), .inl (x1 * (160 : Int32)), .inl ((x1 * (160 : Int32)) + x3), .inr (.inl (0 : Int64))] s102) fun s103 =>
  some (none, s103)
set_option maxRecDepth 100000 in
set_option maxHeartbeats 4000000 in
theorem bX_H_lay_0_e (C : Nat → List zV → zS → zR) (J : Nat → zL → List zV → zS → zR) (x1 : Int32) (x2 : Int32) (x3 : Int32) (s : zS) : zline skX C J zT_H_lay 0 500 (zT_H_lay.drop 0) [some (.inr (.inr 32)), some (.inl x1), some (.inl x2), some (.inl x3)] [] s = bX_H_lay_0 C J x1 x2 x3 s := rfl
def bX_J_fill_0 (C : Nat → List zV → zS → zR) (J : Nat → zL → List zV → zS → zR) (x1 : Int32) (x2 : Int32) (x3 : Int64) (s : zS) : zR :=
  zcV (C 218 [.inl (Int32.ofNat 1280), .inl x1, .inl x2] s) fun s101 =>
  J 7 [some (.inr (.inr 35)), none, some (.inl x2), some (.inr (.inl x3)), none, some (.inl x1)] [] s101
set_option maxRecDepth 100000 in
set_option maxHeartbeats 4000000 in
theorem bX_J_fill_0_e (C : Nat → List zV → zS → zR) (J : Nat → zL → List zV → zS → zR) (x1 : Int32) (x2 : Int32) (x3 : Int64) (s : zS) : zline skX C J zT_J_fill 0 500 (zT_J_fill.drop 0) [some (.inr (.inr 35)), some (.inl x1), some (.inl x2), some (.inr (.inl x3)), none, none] [] s = bX_J_fill_0 C J x1 x2 x3 s := rfl
def bX_J_fill_7 (C : Nat → List zV → zS → zR) (J : Nat → zL → List zV → zS → zR) (x2 : Int32) (x3 : Int64) (x5 : Int32) (s : zS) : zR :=
  if x2 ≤ x5 then (
    some (none, s))
  else (
    zin x5 1280 <|
    let s101 : zS := zsl s 35 (Int32.toNatClampNeg x5) x3
    J 7 [some (.inr (.inr 35)), none, some (.inl x2), some (.inr (.inl x3)), none, some (.inl (x5 + (1 : Int32)))] [] s101)
set_option maxRecDepth 100000 in
set_option maxHeartbeats 4000000 in
theorem bX_J_fill_7_e (C : Nat → List zV → zS → zR) (J : Nat → zL → List zV → zS → zR) (x2 : Int32) (x3 : Int64) (x5 : Int32) (s : zS) : zline skX C J zT_J_fill 0 500 (zT_J_fill.drop 7) [some (.inr (.inr 35)), none, some (.inl x2), some (.inr (.inl x3)), none, some (.inl x5)] [] s = bX_J_fill_7 C J x2 x3 x5 s := rfl
def bX_J_rangeCheck_0 (C : Nat → List zV → zS → zR) (J : Nat → zL → List zV → zS → zR) (x0 : Int32) (x1 : Int32) (x2 : Int32) (s : zS) : zR :=
  if x1 ≤ x2 then (
    if 0 ≤ x1 then (
      if x2 ≤ x0 then (
        some (none, s))
      else (
        none))
    else (
      none))
  else (
    none)
set_option maxRecDepth 100000 in
set_option maxHeartbeats 4000000 in
theorem bX_J_rangeCheck_0_e (C : Nat → List zV → zS → zR) (J : Nat → zL → List zV → zS → zR) (x0 : Int32) (x1 : Int32) (x2 : Int32) (s : zS) : zline skX C J zT_J_rangeCheck 0 500 (zT_J_rangeCheck.drop 0) [some (.inl x0), some (.inl x1), some (.inl x2)] [] s = bX_J_rangeCheck_0 C J x0 x1 x2 s := rfl
def bX_X_refuse_0 (C : Nat → List zV → zS → zR) (J : Nat → zL → List zV → zS → zR) (x1 : Int32) (s : zS) : zR :=
  if 0 ≤ x1 then (
    some (some (.inl x1), s))
  else (
    if x1 < (-7 : Int32) then (
      some (some (.inl x1), s))
    else (
      zin (-x1) 8 <|
      zin (-x1) 8 <|
      let s101 : zS := zs s 44 (Int32.toNatClampNeg (-x1)) ((zg s 44 (Int32.toNatClampNeg (-x1))) + (1 : Int32))
      some (some (.inl x1), s101)))
set_option maxRecDepth 100000 in
set_option maxHeartbeats 4000000 in
theorem bX_X_refuse_0_e (C : Nat → List zV → zS → zR) (J : Nat → zL → List zV → zS → zR) (x1 : Int32) (s : zS) : zline skX C J zT_X_refuse 1 500 (zT_X_refuse.drop 0) [some (.inr (.inr 0)), some (.inl x1)] [] s = bX_X_refuse_0 C J x1 s := rfl
def bX_X_set_0 (C : Nat → List zV → zS → zR) (J : Nat → zL → List zV → zS → zR) (x1 : Int32) (x2 : Int32) (x3 : Int64) (s : zS) : zR :=
  zcI (C 51 [.inr (.inr 32), .inl x1] s) fun r102 s101 =>
  if r102 = 0 then (
    zcI (C 53 [.inr (.inr 32), .inl x1, .inl x2] s101) fun r104 s103 =>
    if ¬ r104 = 0 then (
      zcV (C 55 [.inr (.inr 32), .inl x1, .inl x2, .inr (.inl x3)] s103) fun s105 =>
      some (some (.inl (1 : Int32)), s105))
    else (
      zcI (C 117 [.inr (.inr 0), .inl (-5 : Int32)] s103) fun r107 s106 =>
      some (some (.inl r107), s106)))
  else (
    zcI (C 117 [.inr (.inr 0), .inl r102] s101) fun r109 s108 =>
    some (some (.inl r109), s108))
set_option maxRecDepth 100000 in
set_option maxHeartbeats 4000000 in
theorem bX_X_set_0_e (C : Nat → List zV → zS → zR) (J : Nat → zL → List zV → zS → zR) (x1 : Int32) (x2 : Int32) (x3 : Int64) (s : zS) : zline skX C J zT_X_set 1 500 (zT_X_set.drop 0) [some (.inr (.inr 0)), some (.inl x1), some (.inl x2), some (.inr (.inl x3)), none, none] [] s = bX_X_set_0 C J x1 x2 x3 s := rfl
def bX_H_hasElement_0 (C : Nat → List zV → zS → zR) (J : Nat → zL → List zV → zS → zR) (x1 : Int32) (x2 : Int32) (s : zS) : zR :=
  zcI (C 47 [.inr (.inr 32), .inl x1] s) fun r102 s101 =>
  if r102 = 0 then (
    zbo (0 : Int32) <|
    some (some (.inl (0 : Int32)), s101))
  else (
    zcI (C 48 [.inr (.inr 32), .inl x1] s101) fun r104 s103 =>
    if r104 = 0 then (
      zbo (0 : Int32) <|
      some (some (.inl (0 : Int32)), s103))
    else (
      if x2 < 0 then (
        zbo (0 : Int32) <|
        some (some (.inl (0 : Int32)), s103))
      else (
        zin x1 8 <|
        if (zg s103 34 (Int32.toNatClampNeg x1)) ≤ x2 then (
          zbo (0 : Int32) <|
          some (some (.inl (0 : Int32)), s103))
        else (
          zbo (1 : Int32) <|
          some (some (.inl (1 : Int32)), s103)))))
set_option maxRecDepth 100000 in
set_option maxHeartbeats 4000000 in
theorem bX_H_hasElement_0_e (C : Nat → List zV → zS → zR) (J : Nat → zL → List zV → zS → zR) (x1 : Int32) (x2 : Int32) (s : zS) : zline skX C J zT_H_hasElement 3 500 (zT_H_hasElement.drop 0) [some (.inr (.inr 32)), some (.inl x1), some (.inl x2)] [] s = bX_H_hasElement_0 C J x1 x2 s := rfl
def bX_H_holdsRow_0 (C : Nat → List zV → zS → zR) (J : Nat → zL → List zV → zS → zR) (x1 : Int32) (s : zS) : zR :=
  zin x1 8 <|
  if (zg s 33 (Int32.toNatClampNeg x1)) < (100 : Int32) then (
    zbo (0 : Int32) <|
    some (some (.inl (0 : Int32)), s))
  else (
    zbo (1 : Int32) <|
    some (some (.inl (1 : Int32)), s))
set_option maxRecDepth 100000 in
set_option maxHeartbeats 4000000 in
theorem bX_H_holdsRow_0_e (C : Nat → List zV → zS → zR) (J : Nat → zL → List zV → zS → zR) (x1 : Int32) (s : zS) : zline skX C J zT_H_holdsRow 3 500 (zT_H_holdsRow.drop 0) [some (.inr (.inr 32)), some (.inl x1)] [] s = bX_H_holdsRow_0 C J x1 s := rfl
def bX_H_put_0 (C : Nat → List zV → zS → zR) (J : Nat → zL → List zV → zS → zR) (x1 : Int32) (x2 : Int32) (x3 : Int64) (s : zS) : zR :=
  zin x1 8 <|
  if ((zg s 33 (Int32.toNatClampNeg x1)) - (100 : Int32)) = (0 : Int32) then (
    zin ((x1 * (160 : Int32)) + x2) 1280 <|
    let s101 : zS := zsl s 35 (Int32.toNatClampNeg ((x1 * (160 : Int32)) + x2)) (Int32.toInt64 (Int8.toInt32 (Int32.toInt8 (Int64.toInt32 x3))))
    some (none, s101))
  else (
  if ((zg s 33 (Int32.toNatClampNeg x1)) - (100 : Int32)) = ((0 : Int32) + 1) then (
    zin ((x1 * (160 : Int32)) + x2) 1280 <|
    let s102 : zS := zsl s 35 (Int32.toNatClampNeg ((x1 * (160 : Int32)) + x2)) (Int32.toInt64 (Int16.toInt32 (Int32.toInt16 (Int64.toInt32 x3))))
    some (none, s102))
  else (
  if ((zg s 33 (Int32.toNatClampNeg x1)) - (100 : Int32)) = (((0 : Int32) + 1) + 1) then (
    zin ((x1 * (160 : Int32)) + x2) 1280 <|
    let s103 : zS := zsl s 35 (Int32.toNatClampNeg ((x1 * (160 : Int32)) + x2)) (Int32.toInt64 (Int64.toInt32 x3))
    some (none, s103))
  else (
    zin ((x1 * (160 : Int32)) + x2) 1280 <|
    let s104 : zS := zsl s 35 (Int32.toNatClampNeg ((x1 * (160 : Int32)) + x2)) x3
    some (none, s104))))
set_option maxRecDepth 100000 in
set_option maxHeartbeats 4000000 in
theorem bX_H_put_0_e (C : Nat → List zV → zS → zR) (J : Nat → zL → List zV → zS → zR) (x1 : Int32) (x2 : Int32) (x3 : Int64) (s : zS) : zline skX C J zT_H_put 0 500 (zT_H_put.drop 0) [some (.inr (.inr 32)), some (.inl x1), some (.inl x2), some (.inr (.inl x3)), none, none] [] s = bX_H_put_0 C J x1 x2 x3 s := rfl
def bX_H_whyNoRow_0 (C : Nat → List zV → zS → zR) (J : Nat → zL → List zV → zS → zR) (x1 : Int32) (s : zS) : zR :=
  zcI (C 47 [.inr (.inr 32), .inl x1] s) fun r102 s101 =>
  if ¬ r102 = 0 then (
    zcI (C 49 [.inr (.inr 32), .inl x1] s101) fun r104 s103 =>
    if r104 = 0 then (
      zcI (C 48 [.inr (.inr 32), .inl x1] s103) fun r106 s105 =>
      if r106 = 0 then (
        some (some (.inl (-3 : Int32)), s105))
      else (
        some (some (.inl (0 : Int32)), s105)))
    else (
      some (some (.inl (-2 : Int32)), s103)))
  else (
    some (some (.inl (-1 : Int32)), s101))
set_option maxRecDepth 100000 in
set_option maxHeartbeats 4000000 in
theorem bX_H_whyNoRow_0_e (C : Nat → List zV → zS → zR) (J : Nat → zL → List zV → zS → zR) (x1 : Int32) (s : zS) : zline skX C J zT_H_whyNoRow 1 500 (zT_H_whyNoRow.drop 0) [some (.inr (.inr 32)), some (.inl x1)] [] s = bX_H_whyNoRow_0 C J x1 s := rfl
def bX_H_holdsObject_0 (C : Nat → List zV → zS → zR) (J : Nat → zL → List zV → zS → zR) (x1 : Int32) (s : zS) : zR :=
  zin x1 8 <|
  if (zg s 33 (Int32.toNatClampNeg x1)) = (-1 : Int32) then (
    zbo (0 : Int32) <|
    some (some (.inl (0 : Int32)), s))
  else (
    zin x1 8 <|
    if (100 : Int32) ≤ (zg s 33 (Int32.toNatClampNeg x1)) then (
      zbo (0 : Int32) <|
      some (some (.inl (0 : Int32)), s))
    else (
      zbo (1 : Int32) <|
      some (some (.inl (1 : Int32)), s)))
set_option maxRecDepth 100000 in
set_option maxHeartbeats 4000000 in
theorem bX_H_holdsObject_0_e (C : Nat → List zV → zS → zR) (J : Nat → zL → List zV → zS → zR) (x1 : Int32) (s : zS) : zline skX C J zT_H_holdsObject 3 500 (zT_H_holdsObject.drop 0) [some (.inr (.inr 32)), some (.inl x1)] [] s = bX_H_holdsObject_0 C J x1 s := rfl
def bX_X_copy_0 (C : Nat → List zV → zS → zR) (J : Nat → zL → List zV → zS → zR) (x1 : Int32) (x2 : Int32) (x3 : Int32) (x4 : Int32) (x5 : Int32) (s : zS) : zR :=
  zcI (C 47 [.inr (.inr 32), .inl x1] s) fun r102 s101 =>
  if r102 = 0 then (
    zcI (C 117 [.inr (.inr 0), .inl (-1 : Int32)] s101) fun r104 s103 =>
    some (some (.inl r104), s103))
  else (
    zcI (C 47 [.inr (.inr 32), .inl x2] s101) fun r106 s105 =>
    if ¬ r106 = 0 then (
      zcI (C 49 [.inr (.inr 32), .inl x1] s105) fun r108 s107 =>
      if ¬ r108 = 0 then (
        zcI (C 117 [.inr (.inr 0), .inl (-2 : Int32)] s107) fun r110 s109 =>
        some (some (.inl r110), s109))
      else (
        zcI (C 49 [.inr (.inr 32), .inl x2] s107) fun r112 s111 =>
        if ¬ r112 = 0 then (
          zcI (C 117 [.inr (.inr 0), .inl (-2 : Int32)] s111) fun r114 s113 =>
          some (some (.inl r114), s113))
        else (
          zcI (C 50 [.inr (.inr 32), .inl x1, .inl x2] s111) fun r116 s115 =>
          if r116 = 0 then (
            zcI (C 48 [.inr (.inr 32), .inl x1] s115) fun r118 s117 =>
            if r118 = 0 then (
              zcI (C 117 [.inr (.inr 0), .inl (-3 : Int32)] s117) fun r120 s119 =>
              some (some (.inl r120), s119))
            else (
              zcI (C 48 [.inr (.inr 32), .inl x2] s117) fun r122 s121 =>
              if ¬ r122 = 0 then (
                if 0 ≤ x5 then (
                  zcI (C 54 [.inr (.inr 32), .inl x1, .inl x3, .inl x5] s121) fun r124 s123 =>
                  if r124 = 0 then (
                    zcI (C 117 [.inr (.inr 0), .inl (-5 : Int32)] s123) fun r126 s125 =>
                    some (some (.inl r126), s125))
                  else (
                    zcI (C 54 [.inr (.inr 32), .inl x2, .inl x4, .inl x5] s123) fun r128 s127 =>
                    if ¬ r128 = 0 then (
                      zcV (C 56 [.inr (.inr 32), .inl x1, .inl x2, .inl x3, .inl x4, .inl x5] s127) fun s129 =>
                      some (some (.inl (1 : Int32)), s129))
                    else (
                      zcI (C 117 [.inr (.inr 0), .inl (-5 : Int32)] s127) fun r131 s130 =>
                      some (some (.inl r131), s130))))
                else (
                  zcI (C 117 [.inr (.inr 0), .inl (-4 : Int32)] s121) fun r133 s132 =>
                  some (some (.inl r133), s132)))
              else (
                zcI (C 117 [.inr (.inr 0), .inl (-3 : Int32)] s121) fun r135 s134 =>
                some (some (.inl r135), s134))))
          else (
            zcI (C 117 [.inr (.inr 0), .inl (-2 : Int32)] s115) fun r137 s136 =>
            some (some (.inl r137), s136)))))
    else (
      zcI (C 117 [.inr (.inr 0), .inl (-1 : Int32)] s105) fun r139 s138 =>
      some (some (.inl r139), s138)))
set_option maxRecDepth 100000 in
set_option maxHeartbeats 4000000 in
theorem bX_X_copy_0_e (C : Nat → List zV → zS → zR) (J : Nat → zL → List zV → zS → zR) (x1 : Int32) (x2 : Int32) (x3 : Int32) (x4 : Int32) (x5 : Int32) (s : zS) : zline skX C J zT_X_copy 1 500 (zT_X_copy.drop 0) [some (.inr (.inr 0)), some (.inl x1), some (.inl x2), some (.inl x3), some (.inl x4), some (.inl x5)] [] s = bX_X_copy_0 C J x1 x2 x3 x4 x5 s := rfl
def bX_H_areOfTwoSorts_0 (C : Nat → List zV → zS → zR) (J : Nat → zL → List zV → zS → zR) (x1 : Int32) (x2 : Int32) (s : zS) : zR :=
  zcI (C 48 [.inr (.inr 32), .inl x1] s) fun r102 s101 =>
  if r102 = 0 then (
    zbo (0 : Int32) <|
    some (some (.inl (0 : Int32)), s101))
  else (
    zcI (C 48 [.inr (.inr 32), .inl x2] s101) fun r104 s103 =>
    if r104 = 0 then (
      zbo (0 : Int32) <|
      some (some (.inl (0 : Int32)), s103))
    else (
      zin x1 8 <|
      zin x2 8 <|
      if (zg s103 33 (Int32.toNatClampNeg x1)) = (zg s103 33 (Int32.toNatClampNeg x2)) then (
        zbo (0 : Int32) <|
        some (some (.inl (0 : Int32)), s103))
      else (
        zbo (1 : Int32) <|
        some (some (.inl (1 : Int32)), s103))))
set_option maxRecDepth 100000 in
set_option maxHeartbeats 4000000 in
theorem bX_H_areOfTwoSorts_0_e (C : Nat → List zV → zS → zR) (J : Nat → zL → List zV → zS → zR) (x1 : Int32) (x2 : Int32) (s : zS) : zline skX C J zT_H_areOfTwoSorts 3 500 (zT_H_areOfTwoSorts.drop 0) [some (.inr (.inr 32)), some (.inl x1), some (.inl x2)] [] s = bX_H_areOfTwoSorts_0 C J x1 x2 s := rfl
def bX_H_hasStretch_0 (C : Nat → List zV → zS → zR) (J : Nat → zL → List zV → zS → zR) (x1 : Int32) (x2 : Int32) (x3 : Int32) (s : zS) : zR :=
  if x2 < 0 then (
    zbo (0 : Int32) <|
    some (some (.inl (0 : Int32)), s))
  else (
    zin x1 8 <|
    if 0 < (lg_cmp ((Int32.toInt64 x2) + (Int32.toInt64 x3)) (Int32.toInt64 (zg s 34 (Int32.toNatClampNeg x1)))) then (
      zbo (0 : Int32) <|
      some (some (.inl (0 : Int32)), s))
    else (
      zbo (1 : Int32) <|
      some (some (.inl (1 : Int32)), s)))
set_option maxRecDepth 100000 in
set_option maxHeartbeats 4000000 in
theorem bX_H_hasStretch_0_e (C : Nat → List zV → zS → zR) (J : Nat → zL → List zV → zS → zR) (x1 : Int32) (x2 : Int32) (x3 : Int32) (s : zS) : zline skX C J zT_H_hasStretch 3 500 (zT_H_hasStretch.drop 0) [some (.inr (.inr 32)), some (.inl x1), some (.inl x2), some (.inl x3)] [] s = bX_H_hasStretch_0 C J x1 x2 x3 s := rfl
def bX_H_move_0 (C : Nat → List zV → zS → zR) (J : Nat → zL → List zV → zS → zR) (x1 : Int32) (x2 : Int32) (x3 : Int32) (x4 : Int32) (x5 : Int32) (s : zS) : zR :=
  zcpin ((x1 * (160 : Int32)) + x3) ((x2 * (160 : Int32)) + x4) x5 1280 1280 <|
  let s101 : zS := zslc s 35 35 (Int32.toNatClampNeg ((x1 * (160 : Int32)) + x3)) (Int32.toNatClampNeg ((x2 * (160 : Int32)) + x4)) (Int32.toNatClampNeg x5)
  some (none, s101)
set_option maxRecDepth 100000 in
set_option maxHeartbeats 4000000 in
theorem bX_H_move_0_e (C : Nat → List zV → zS → zR) (J : Nat → zL → List zV → zS → zR) (x1 : Int32) (x2 : Int32) (x3 : Int32) (x4 : Int32) (x5 : Int32) (s : zS) : zline skX C J zT_H_move 0 500 (zT_H_move.drop 0) [some (.inr (.inr 32)), some (.inl x1), some (.inl x2), some (.inl x3), some (.inl x4), some (.inl x5)] [] s = bX_H_move_0 C J x1 x2 x3 x4 x5 s := rfl
def bX_X_element_0 (C : Nat → List zV → zS → zR) (J : Nat → zL → List zV → zS → zR) (x1 : Int32) (x2 : Int32) (s : zS) : zR :=
  zcI (C 53 [.inr (.inr 32), .inl x1, .inl x2] s) fun r102 s101 =>
  if r102 = 0 then (
    some (some (.inr (.inl (0 : Int64))), s101))
  else (
    zcJ (C 57 [.inr (.inr 32), .inl x1, .inl x2] s101) fun r104 s103 =>
    some (some (.inr (.inl r104)), s103))
set_option maxRecDepth 100000 in
set_option maxHeartbeats 4000000 in
theorem bX_X_element_0_e (C : Nat → List zV → zS → zR) (J : Nat → zL → List zV → zS → zR) (x1 : Int32) (x2 : Int32) (s : zS) : zline skX C J zT_X_element 2 500 (zT_X_element.drop 0) [some (.inr (.inr 0)), some (.inl x1), some (.inl x2)] [] s = bX_X_element_0 C J x1 x2 s := rfl
def bX_H_longAt_0 (C : Nat → List zV → zS → zR) (J : Nat → zL → List zV → zS → zR) (x1 : Int32) (x2 : Int32) (s : zS) : zR :=
  zin ((x1 * (160 : Int32)) + x2) 1280 <|
  some (some (.inr (.inl (zgl s 35 (Int32.toNatClampNeg ((x1 * (160 : Int32)) + x2))))), s)
set_option maxRecDepth 100000 in
set_option maxHeartbeats 4000000 in
theorem bX_H_longAt_0_e (C : Nat → List zV → zS → zR) (J : Nat → zL → List zV → zS → zR) (x1 : Int32) (x2 : Int32) (s : zS) : zline skX C J zT_H_longAt 2 500 (zT_H_longAt.drop 0) [some (.inr (.inr 32)), some (.inl x1), some (.inl x2)] [] s = bX_H_longAt_0 C J x1 x2 s := rfl
def bX_X_show_0 (C : Nat → List zV → zS → zR) (J : Nat → zL → List zV → zS → zR) (x1 : Int32) (x2 : Int32) (s : zS) : zR :=
  zcI (C 47 [.inr (.inr 32), .inl x1] s) fun r102 s101 =>
  if r102 = 0 then (
    zcI (C 117 [.inr (.inr 0), .inl (-1 : Int32)] s101) fun r104 s103 =>
    some (some (.inl r104), s103))
  else (
    if x2 = (-1 : Int32) then (
      zin x1 8 <|
      let s105 : zS := zs s101 33 (Int32.toNatClampNeg x1) x2
      if ¬ x2 = (-1 : Int32) then (
        some (some (.inl (1 : Int32)), s105))
      else (
        some (some (.inl (0 : Int32)), s105)))
    else (
      zcI (C 60 [.inr (.inr 2), .inl x2] s101) fun r107 s106 =>
      if ¬ r107 = 0 then (
        zin x1 8 <|
        let s108 : zS := zs s106 33 (Int32.toNatClampNeg x1) x2
        if ¬ x2 = (-1 : Int32) then (
          some (some (.inl (1 : Int32)), s108))
        else (
          some (some (.inl (0 : Int32)), s108)))
      else (
        zcI (C 117 [.inr (.inr 0), .inl (-1 : Int32)] s106) fun r110 s109 =>
        some (some (.inl r110), s109))))
set_option maxRecDepth 100000 in
set_option maxHeartbeats 4000000 in
theorem bX_X_show_0_e (C : Nat → List zV → zS → zR) (J : Nat → zL → List zV → zS → zR) (x1 : Int32) (x2 : Int32) (s : zS) : zline skX C J zT_X_show 1 500 (zT_X_show.drop 0) [some (.inr (.inr 0)), some (.inl x1), some (.inl x2)] [] s = bX_X_show_0 C J x1 x2 s := rfl
def bX_W_hasObject_0 (C : Nat → List zV → zS → zR) (J : Nat → zL → List zV → zS → zR) (x1 : Int32) (s : zS) : zR :=
  if x1 < 0 then (
    zbo (0 : Int32) <|
    some (some (.inl (0 : Int32)), s))
  else (
    if (zg s 2 0) ≤ x1 then (
      zbo (0 : Int32) <|
      some (some (.inl (0 : Int32)), s))
    else (
      zbo (1 : Int32) <|
      some (some (.inl (1 : Int32)), s)))
set_option maxRecDepth 100000 in
set_option maxHeartbeats 4000000 in
theorem bX_W_hasObject_0_e (C : Nat → List zV → zS → zR) (J : Nat → zL → List zV → zS → zR) (x1 : Int32) (s : zS) : zline skX C J zT_W_hasObject 3 500 (zT_W_hasObject.drop 0) [some (.inr (.inr 2)), some (.inl x1)] [] s = bX_W_hasObject_0 C J x1 s := rfl
def bX_X_holds_0 (C : Nat → List zV → zS → zR) (J : Nat → zL → List zV → zS → zR) (x1 : Int32) (s : zS) : zR :=
  zcI (C 47 [.inr (.inr 32), .inl x1] s) fun r102 s101 =>
  if r102 = 0 then (
    some (some (.inl (-1 : Int32)), s101))
  else (
    zin x1 8 <|
    some (some (.inl (zg s101 33 (Int32.toNatClampNeg x1))), s101))
set_option maxRecDepth 100000 in
set_option maxHeartbeats 4000000 in
theorem bX_X_holds_0_e (C : Nat → List zV → zS → zR) (J : Nat → zL → List zV → zS → zR) (x1 : Int32) (s : zS) : zline skX C J zT_X_holds 1 500 (zT_X_holds.drop 0) [some (.inr (.inr 0)), some (.inl x1)] [] s = bX_X_holds_0 C J x1 s := rfl
def bX_X_says_0 (C : Nat → List zV → zS → zR) (J : Nat → zL → List zV → zS → zR) (x1 : Int32) (x2 : Int32) (s : zS) : zR :=
  zcI (C 47 [.inr (.inr 32), .inl x1] s) fun r102 s101 =>
  if r102 = 0 then (
    zcI (C 117 [.inr (.inr 0), .inl (-1 : Int32)] s101) fun r104 s103 =>
    some (some (.inl r104), s103))
  else (
    zcI (C 121 [.inl x2] s101) fun r106 s105 =>
    if ¬ r106 = 0 then (
      zin x1 8 <|
      zcI (C 48 [.inr (.inr 32), .inl x1] s105) fun r108 s107 =>
      if ¬ r108 = 0 then (
        zcI (C 117 [.inr (.inr 0), .inl (-2 : Int32)] s107) fun r110 s109 =>
        some (some (.inl r110), s109))
      else (
        zcI (C 49 [.inr (.inr 32), .inl x1] s107) fun r112 s111 =>
        if r112 = 0 then (
          if ¬ (zg s105 33 (Int32.toNatClampNeg x1)) = (-1 : Int32) then (
            if x2 = (0 : Int32) then (
              zin (zg s105 33 (Int32.toNatClampNeg x1)) 16 <|
              some (some (.inl (zg s111 6 (Int32.toNatClampNeg (zg s105 33 (Int32.toNatClampNeg x1))))), s111))
            else (
            if x2 = ((0 : Int32) + 1) then (
              zcI (C 74 [.inr (.inr 2), .inl (zg s105 33 (Int32.toNatClampNeg x1))] s111) fun r114 s113 =>
              zcI (C 215 [.inl r114] s113) fun r116 s115 =>
              some (some (.inl r116), s115))
            else (
            if x2 = (((0 : Int32) + 1) + 1) then (
              zin (zg s105 33 (Int32.toNatClampNeg x1)) 16 <|
              some (some (.inl (zg s111 4 (Int32.toNatClampNeg (zg s105 33 (Int32.toNatClampNeg x1))))), s111))
            else (
              zcI (C 74 [.inr (.inr 2), .inl (zg s105 33 (Int32.toNatClampNeg x1))] s111) fun r118 s117 =>
              some (some (.inl r118), s117)))))
          else (
            zcI (C 117 [.inr (.inr 0), .inl (-3 : Int32)] s111) fun r120 s119 =>
            some (some (.inl r120), s119)))
        else (
          zcI (C 66 [.inr (.inr 2), .inl (zg s105 33 (Int32.toNatClampNeg x1)), .inl x2] s111) fun r122 s121 =>
          if ¬ r122 = 0 then (
            if ¬ (zg s105 33 (Int32.toNatClampNeg x1)) = (-1 : Int32) then (
              if x2 = (0 : Int32) then (
                zin (zg s105 33 (Int32.toNatClampNeg x1)) 16 <|
                some (some (.inl (zg s121 6 (Int32.toNatClampNeg (zg s105 33 (Int32.toNatClampNeg x1))))), s121))
              else (
              if x2 = ((0 : Int32) + 1) then (
                zcI (C 74 [.inr (.inr 2), .inl (zg s105 33 (Int32.toNatClampNeg x1))] s121) fun r124 s123 =>
                zcI (C 215 [.inl r124] s123) fun r126 s125 =>
                some (some (.inl r126), s125))
              else (
              if x2 = (((0 : Int32) + 1) + 1) then (
                zin (zg s105 33 (Int32.toNatClampNeg x1)) 16 <|
                some (some (.inl (zg s121 4 (Int32.toNatClampNeg (zg s105 33 (Int32.toNatClampNeg x1))))), s121))
              else (
                zcI (C 74 [.inr (.inr 2), .inl (zg s105 33 (Int32.toNatClampNeg x1))] s121) fun r128 s127 =>
                some (some (.inl r128), s127)))))
            else (
              zcI (C 117 [.inr (.inr 0), .inl (-3 : Int32)] s121) fun r130 s129 =>
              some (some (.inl r130), s129)))
          else (
            zcI (C 117 [.inr (.inr 0), .inl (-2 : Int32)] s121) fun r132 s131 =>
            some (some (.inl r132), s131)))))
    else (
      zcI (C 117 [.inr (.inr 0), .inl (-1 : Int32)] s105) fun r134 s133 =>
      some (some (.inl r134), s133)))
set_option maxRecDepth 100000 in
set_option maxHeartbeats 4000000 in
theorem bX_X_says_0_e (C : Nat → List zV → zS → zR) (J : Nat → zL → List zV → zS → zR) (x1 : Int32) (x2 : Int32) (s : zS) : zline skX C J zT_X_says 1 500 (zT_X_says.drop 0) [some (.inr (.inr 0)), some (.inl x1), some (.inl x2), none] [] s = bX_X_says_0 C J x1 x2 s := rfl
def bX_J_bitCount_0 (C : Nat → List zV → zS → zR) (J : Nat → zL → List zV → zS → zR) (x0 : Int32) (s : zS) : zR :=
  let x101 : Int32 := (x0 - ((UInt32.toInt32 (Int32.toUInt32 x0 >>> (Int32.toUInt32 (1 : Int32) &&& Int32.toUInt32 31))) &&& (1431655765 : Int32)))
  let x102 : Int32 := ((x101 &&& (858993459 : Int32)) + ((UInt32.toInt32 (Int32.toUInt32 x101 >>> (Int32.toUInt32 (2 : Int32) &&& Int32.toUInt32 31))) &&& (858993459 : Int32)))
  let x103 : Int32 := ((x102 + (UInt32.toInt32 (Int32.toUInt32 x102 >>> (Int32.toUInt32 (4 : Int32) &&& Int32.toUInt32 31)))) &&& (252645135 : Int32))
  let x104 : Int32 := (x103 + (UInt32.toInt32 (Int32.toUInt32 x103 >>> (Int32.toUInt32 (8 : Int32) &&& Int32.toUInt32 31))))
  let x105 : Int32 := (x104 + (UInt32.toInt32 (Int32.toUInt32 x104 >>> (Int32.toUInt32 (16 : Int32) &&& Int32.toUInt32 31))))
  some (some (.inl (x105 &&& (63 : Int32))), s)
set_option maxRecDepth 100000 in
set_option maxHeartbeats 4000000 in
theorem bX_J_bitCount_0_e (C : Nat → List zV → zS → zR) (J : Nat → zL → List zV → zS → zR) (x0 : Int32) (s : zS) : zline skX C J zT_J_bitCount 1 500 (zT_J_bitCount.drop 0) [some (.inl x0)] [] s = bX_J_bitCount_0 C J x0 s := rfl
def bX_W_isOfKind_0 (C : Nat → List zV → zS → zR) (J : Nat → zL → List zV → zS → zR) (x1 : Int32) (x2 : Int32) (s : zS) : zR :=
  if x2 = 0 then (
    zbo (1 : Int32) <|
    some (some (.inl (1 : Int32)), s))
  else (
    zin x1 16 <|
    if (zg s 3 (Int32.toNatClampNeg x1)) = x2 then (
      zbo (1 : Int32) <|
      some (some (.inl (1 : Int32)), s))
    else (
      if ¬ x2 = (1 : Int32) then (
        zbo (0 : Int32) <|
        some (some (.inl (0 : Int32)), s))
      else (
        zin x1 16 <|
        if ¬ (zg s 3 (Int32.toNatClampNeg x1)) = (3 : Int32) then (
          zbo (0 : Int32) <|
          some (some (.inl (0 : Int32)), s))
        else (
          zbo (1 : Int32) <|
          some (some (.inl (1 : Int32)), s)))))
set_option maxRecDepth 100000 in
set_option maxHeartbeats 4000000 in
theorem bX_W_isOfKind_0_e (C : Nat → List zV → zS → zR) (J : Nat → zL → List zV → zS → zR) (x1 : Int32) (x2 : Int32) (s : zS) : zline skX C J zT_W_isOfKind 3 500 (zT_W_isOfKind.drop 0) [some (.inr (.inr 2)), some (.inl x1), some (.inl x2)] [] s = bX_W_isOfKind_0 C J x1 x2 s := rfl
def bX_W_ownSlots_0 (C : Nat → List zV → zS → zR) (J : Nat → zL → List zV → zS → zR) (x1 : Int32) (s : zS) : zR :=
  J 4 [some (.inr (.inr 2)), some (.inl x1), some (.inl (0 : Int32)), some (.inl (0 : Int32))] [] s
set_option maxRecDepth 100000 in
set_option maxHeartbeats 4000000 in
theorem bX_W_ownSlots_0_e (C : Nat → List zV → zS → zR) (J : Nat → zL → List zV → zS → zR) (x1 : Int32) (s : zS) : zline skX C J zT_W_ownSlots 1 500 (zT_W_ownSlots.drop 0) [some (.inr (.inr 2)), some (.inl x1), none, none] [] s = bX_W_ownSlots_0 C J x1 s := rfl
def bX_W_ownSlots_4 (C : Nat → List zV → zS → zR) (J : Nat → zL → List zV → zS → zR) (x1 : Int32) (x2 : Int32) (x3 : Int32) (s : zS) : zR :=
  if (16 : Int32) ≤ x3 then (
    some (some (.inl x2), s))
  else (
    zcI (C 68 [.inr (.inr 2), .inl x1, .inl x3] s) fun r102 s101 =>
    if r102 = 0 then (
      J 4 [some (.inr (.inr 2)), some (.inl x1), some (.inl x2), some (.inl (x3 + (1 : Int32)))] [] s101)
    else (
      J 4 [some (.inr (.inr 2)), some (.inl x1), some (.inl (x2 ||| ((1 : Int32) <<< (x3 &&& 31)))), some (.inl (x3 + (1 : Int32)))] [] s101))
set_option maxRecDepth 100000 in
set_option maxHeartbeats 4000000 in
theorem bX_W_ownSlots_4_e (C : Nat → List zV → zS → zR) (J : Nat → zL → List zV → zS → zR) (x1 : Int32) (x2 : Int32) (x3 : Int32) (s : zS) : zline skX C J zT_W_ownSlots 1 500 (zT_W_ownSlots.drop 4) [some (.inr (.inr 2)), some (.inl x1), some (.inl x2), some (.inl x3)] [] s = bX_W_ownSlots_4 C J x1 x2 x3 s := rfl
def bX_W_hasOwn_0 (C : Nat → List zV → zS → zR) (J : Nat → zL → List zV → zS → zR) (x1 : Int32) (x2 : Int32) (s : zS) : zR :=
  zin ((x1 * (16 : Int32)) + x2) 256 <|
  if (zg s 8 (Int32.toNatClampNeg ((x1 * (16 : Int32)) + x2))) = 0 then (
    zbo (0 : Int32) <|
    some (some (.inl (0 : Int32)), s))
  else (
    zbo (1 : Int32) <|
    some (some (.inl (1 : Int32)), s))
set_option maxRecDepth 100000 in
set_option maxHeartbeats 4000000 in
theorem bX_W_hasOwn_0_e (C : Nat → List zV → zS → zR) (J : Nat → zL → List zV → zS → zR) (x1 : Int32) (x2 : Int32) (s : zS) : zline skX C J zT_W_hasOwn 3 500 (zT_W_hasOwn.drop 0) [some (.inr (.inr 2)), some (.inl x1), some (.inl x2)] [] s = bX_W_hasOwn_0 C J x1 x2 s := rfl
def bX_X_isKind_0 (C : Nat → List zV → zS → zR) (J : Nat → zL → List zV → zS → zR) (x0 : Int32) (s : zS) : zR :=
  if x0 < 0 then (
    zbo (0 : Int32) <|
    some (some (.inl (0 : Int32)), s))
  else (
    if (4 : Int32) ≤ x0 then (
      zbo (0 : Int32) <|
      some (some (.inl (0 : Int32)), s))
    else (
      zbo (1 : Int32) <|
      some (some (.inl (1 : Int32)), s)))
set_option maxRecDepth 100000 in
set_option maxHeartbeats 4000000 in
theorem bX_X_isKind_0_e (C : Nat → List zV → zS → zR) (J : Nat → zL → List zV → zS → zR) (x0 : Int32) (s : zS) : zline skX C J zT_X_isKind 3 500 (zT_X_isKind.drop 0) [some (.inl x0)] [] s = bX_X_isKind_0 C J x0 s := rfl
def bX_X_read_0 (C : Nat → List zV → zS → zR) (J : Nat → zL → List zV → zS → zR) (x1 : Int32) (s : zS) : zR :=
  zcI (C 51 [.inr (.inr 32), .inl x1] s) fun r102 s101 =>
  if r102 = 0 then (
    zcV (C 16 [.inr (.inr 42), .inr (.inr 32), .inl x1] s101) fun s103 =>
    zcI (C 17 [.inr (.inr 42), .inr (.inr 2), .inr (.inr 36)] s103) fun r105 s104 =>
    let s106 : zS := zs s104 0 8 r105
    if ¬ r105 = (-1 : Int32) then (
      zcI (C 117 [.inr (.inr 0), .inl (-6 : Int32)] s106) fun r108 s107 =>
      some (some (.inl r108), s107))
    else (
      some (some (.inl (zg s104 42 0)), s106)))
  else (
    zcI (C 117 [.inr (.inr 0), .inl r102] s101) fun r110 s109 =>
    some (some (.inl r110), s109))
set_option maxRecDepth 100000 in
set_option maxHeartbeats 4000000 in
theorem bX_X_read_0_e (C : Nat → List zV → zS → zR) (J : Nat → zL → List zV → zS → zR) (x1 : Int32) (s : zS) : zline skX C J zT_X_read 1 500 (zT_X_read.drop 0) [some (.inr (.inr 0)), some (.inl x1), none] [] s = bX_X_read_0 C J x1 s := rfl
def bX_D_lay_0 (C : Nat → List zV → zS → zR) (J : Nat → zL → List zV → zS → zR) (x2 : Int32) (s : zS) : zR :=
  zin x2 8 <|
  let s101 : zS := zs s 42 2 (zg s 34 (Int32.toNatClampNeg x2))
  J 8 [some (.inr (.inr 42)), some (.inr (.inr 32)), some (.inl x2), some (.inl (0 : Int32))] [] s101
set_option maxRecDepth 100000 in
set_option maxHeartbeats 4000000 in
theorem bX_D_lay_0_e (C : Nat → List zV → zS → zR) (J : Nat → zL → List zV → zS → zR) (x2 : Int32) (s : zS) : zline skX C J zT_D_lay 0 500 (zT_D_lay.drop 0) [some (.inr (.inr 42)), some (.inr (.inr 32)), some (.inl x2), none] [] s = bX_D_lay_0 C J x2 s := rfl
def bX_D_lay_8 (C : Nat → List zV → zS → zR) (J : Nat → zL → List zV → zS → zR) (x2 : Int32) (x3 : Int32) (s : zS) : zR :=
  if (zg s 42 2) ≤ x3 then (
    some (none, s))
  else (
    zcI (C 58 [.inr (.inr 32), .inl x2, .inl x3] s) fun r102 s101 =>
    zin x3 160 <|
    let s103 : zS := zs s101 43 (Int32.toNatClampNeg x3) r102
    J 8 [some (.inr (.inr 42)), some (.inr (.inr 32)), some (.inl x2), some (.inl (x3 + (1 : Int32)))] [] s103)
set_option maxRecDepth 100000 in
set_option maxHeartbeats 4000000 in
theorem bX_D_lay_8_e (C : Nat → List zV → zS → zR) (J : Nat → zL → List zV → zS → zR) (x2 : Int32) (x3 : Int32) (s : zS) : zline skX C J zT_D_lay 0 500 (zT_D_lay.drop 8) [some (.inr (.inr 42)), some (.inr (.inr 32)), some (.inl x2), some (.inl x3)] [] s = bX_D_lay_8 C J x2 x3 s := rfl
def bX_H_intAt_0 (C : Nat → List zV → zS → zR) (J : Nat → zL → List zV → zS → zR) (x1 : Int32) (x2 : Int32) (s : zS) : zR :=
  zin ((x1 * (160 : Int32)) + x2) 1280 <|
  some (some (.inl (Int64.toInt32 (zgl s 35 (Int32.toNatClampNeg ((x1 * (160 : Int32)) + x2))))), s)
set_option maxRecDepth 100000 in
set_option maxHeartbeats 4000000 in
theorem bX_H_intAt_0_e (C : Nat → List zV → zS → zR) (J : Nat → zL → List zV → zS → zR) (x1 : Int32) (x2 : Int32) (s : zS) : zline skX C J zT_H_intAt 1 500 (zT_H_intAt.drop 0) [some (.inr (.inr 32)), some (.inl x1), some (.inl x2)] [] s = bX_H_intAt_0 C J x1 x2 s := rfl
def bX_D_readText_0 (C : Nat → List zV → zS → zR) (J : Nat → zL → List zV → zS → zR) (s : zS) : zR :=
  let s101 : zS := zs s 42 3 (0 : Int32)
  let s102 : zS := zs s101 42 0 (0 : Int32)
  let s103 : zS := zs s102 42 4 (-1 : Int32)
  J 16 [some (.inr (.inr 42)), some (.inr (.inr 2)), some (.inr (.inr 36)), some (.inl (zg s 2 0)), some (.inl (1 : Int32)), some (.inl (0 : Int32))] [] s103
set_option maxRecDepth 100000 in
set_option maxHeartbeats 4000000 in
theorem bX_D_readText_0_e (C : Nat → List zV → zS → zR) (J : Nat → zL → List zV → zS → zR) (s : zS) : zline skX C J zT_D_readText 1 500 (zT_D_readText.drop 0) [some (.inr (.inr 42)), some (.inr (.inr 2)), some (.inr (.inr 36)), none, none, none] [] s = bX_D_readText_0 C J s := rfl
def bX_D_readText_16 (C : Nat → List zV → zS → zR) (J : Nat → zL → List zV → zS → zR) (x3 : Int32) (x4 : Int32) (x5 : Int32) (s : zS) : zR :=
  if (160 : Int32) < x5 then (
    if (zg s 42 4) = (-1 : Int32) then (
      some (some (.inl (zg s 42 4)), s))
    else (
      let s101 : zS := zs s 2 0 x3
      some (some (.inl (zg s 42 4)), s101)))
  else (
    if x4 = 0 then (
      if (zg s 42 4) = (-1 : Int32) then (
        some (some (.inl (zg s 42 4)), s))
      else (
        let s102 : zS := zs s 2 0 x3
        some (some (.inl (zg s 42 4)), s102)))
    else (
      zcI (C 18 [.inr (.inr 42), .inr (.inr 2), .inr (.inr 36)] s) fun r104 s103 =>
      if r104 = 0 then (
        J 16 [some (.inr (.inr 42)), some (.inr (.inr 2)), some (.inr (.inr 36)), some (.inl x3), some (.inl (0 : Int32)), some (.inl (x5 + (1 : Int32)))] [] s103)
      else (
        if (zg s103 42 2) ≤ (zg s103 42 3) then (
          J 16 [some (.inr (.inr 42)), some (.inr (.inr 2)), some (.inr (.inr 36)), some (.inl x3), some (.inl (0 : Int32)), some (.inl (x5 + (1 : Int32)))] [] s103)
        else (
          zcI (C 24 [.inr (.inr 42), .inl (59 : Int32)] s103) fun r106 s105 =>
          if r106 = 0 then (
            J 16 [some (.inr (.inr 42)), some (.inr (.inr 2)), some (.inr (.inr 36)), some (.inl x3), some (.inl (0 : Int32)), some (.inl (x5 + (1 : Int32)))] [] s105)
          else (
            J 16 [some (.inr (.inr 42)), some (.inr (.inr 2)), some (.inr (.inr 36)), some (.inl x3), some (.inl (1 : Int32)), some (.inl (x5 + (1 : Int32)))] [] s105)))))
set_option maxRecDepth 100000 in
set_option maxHeartbeats 4000000 in
theorem bX_D_readText_16_e (C : Nat → List zV → zS → zR) (J : Nat → zL → List zV → zS → zR) (x3 : Int32) (x4 : Int32) (x5 : Int32) (s : zS) : zline skX C J zT_D_readText 1 500 (zT_D_readText.drop 16) [some (.inr (.inr 42)), some (.inr (.inr 2)), some (.inr (.inr 36)), some (.inl x3), some (.inl x4), some (.inl x5)] [] s = bX_D_readText_16 C J x3 x4 x5 s := rfl
def bX_D_pass_0 (C : Nat → List zV → zS → zR) (J : Nat → zL → List zV → zS → zR) (x1 : Int32) (s : zS) : zR :=
  zcI (C 25 [.inr (.inr 42), .inl x1] s) fun r102 s101 =>
  if ¬ r102 = 0 then (
    let s103 : zS := zs s101 42 3 ((zg s101 42 3) + (1 : Int32))
    zbo (1 : Int32) <|
    some (some (.inl (1 : Int32)), s103))
  else (
    zcI (C 27 [.inr (.inr 42), .inl (zg s101 42 3)] s101) fun r105 s104 =>
    zbo r105 <|
    some (some (.inl r105), s104))
set_option maxRecDepth 100000 in
set_option maxHeartbeats 4000000 in
theorem bX_D_pass_0_e (C : Nat → List zV → zS → zR) (J : Nat → zL → List zV → zS → zR) (x1 : Int32) (s : zS) : zline skX C J zT_D_pass 3 500 (zT_D_pass.drop 0) [some (.inr (.inr 42)), some (.inl x1)] [] s = bX_D_pass_0 C J x1 s := rfl
def bX_D_markFault_0 (C : Nat → List zV → zS → zR) (J : Nat → zL → List zV → zS → zR) (x1 : Int32) (s : zS) : zR :=
  let s101 : zS := zs s 42 4 x1
  zbo (0 : Int32) <|
  some (some (.inl (0 : Int32)), s101)
set_option maxRecDepth 100000 in
set_option maxHeartbeats 4000000 in
theorem bX_D_markFault_0_e (C : Nat → List zV → zS → zR) (J : Nat → zL → List zV → zS → zR) (x1 : Int32) (s : zS) : zline skX C J zT_D_markFault 3 500 (zT_D_markFault.drop 0) [some (.inr (.inr 42)), some (.inl x1)] [] s = bX_D_markFault_0 C J x1 s := rfl
def bX_D_stands_0 (C : Nat → List zV → zS → zR) (J : Nat → zL → List zV → zS → zR) (x1 : Int32) (s : zS) : zR :=
  if (zg s 42 2) ≤ (zg s 42 3) then (
    zbo (0 : Int32) <|
    some (some (.inl (0 : Int32)), s))
  else (
    zin (zg s 42 3) 160 <|
    if ¬ (zg s 43 (Int32.toNatClampNeg (zg s 42 3))) = x1 then (
      zbo (0 : Int32) <|
      some (some (.inl (0 : Int32)), s))
    else (
      zbo (1 : Int32) <|
      some (some (.inl (1 : Int32)), s)))
set_option maxRecDepth 100000 in
set_option maxHeartbeats 4000000 in
theorem bX_D_stands_0_e (C : Nat → List zV → zS → zR) (J : Nat → zL → List zV → zS → zR) (x1 : Int32) (s : zS) : zline skX C J zT_D_stands 3 500 (zT_D_stands.drop 0) [some (.inr (.inr 42)), some (.inl x1)] [] s = bX_D_stands_0 C J x1 s := rfl
def bX_D_readItem_0 (C : Nat → List zV → zS → zR) (J : Nat → zL → List zV → zS → zR) (s : zS) : zR :=
  zcI (C 24 [.inr (.inr 42), .inl (110 : Int32)] s) fun r102 s101 =>
  if r102 = 0 then (
    zbo (0 : Int32) <|
    some (some (.inl (0 : Int32)), s101))
  else (
    zcI (C 24 [.inr (.inr 42), .inl (101 : Int32)] s101) fun r104 s103 =>
    if r104 = 0 then (
      zbo (0 : Int32) <|
      some (some (.inl (0 : Int32)), s103))
    else (
      zcI (C 24 [.inr (.inr 42), .inl (119 : Int32)] s103) fun r106 s105 =>
      if r106 = 0 then (
        zbo (0 : Int32) <|
        some (some (.inl (0 : Int32)), s105))
      else (
        zcI (C 24 [.inr (.inr 42), .inl (32 : Int32)] s105) fun r108 s107 =>
        if ¬ r108 = 0 then (
          zcI (C 26 [.inr (.inr 42)] s107) fun r110 s109 =>
          if r110 = 0 then (
            zcI (C 27 [.inr (.inr 42), .inl (zg s109 42 3)] s109) fun r112 s111 =>
            zbo r112 <|
            some (some (.inl r112), s111))
          else (
            zin (zg s109 42 3) 160 <|
            zcI (C 121 [.inl ((zg s109 43 (Int32.toNatClampNeg (zg s109 42 3))) - (48 : Int32))] s109) fun r114 s113 =>
            if ¬ r114 = 0 then (
              zin (zg s113 42 3) 160 <|
              let x115 : Int32 := ((zg s113 43 (Int32.toNatClampNeg (zg s113 42 3))) - (48 : Int32))
              let s116 : zS := zs s113 42 3 ((zg s113 42 3) + (1 : Int32))
              zcV (C 6 [.inr (.inr 36)] s116) fun s117 =>
              zcI (C 25 [.inr (.inr 42), .inl (60 : Int32)] s117) fun r119 s118 =>
              if r119 = 0 then (
                zcI (C 61 [.inr (.inr 2)] s118) fun r121 s120 =>
                if ¬ r121 = 0 then (
                  zcI (C 27 [.inr (.inr 42), .inl (zg s 42 3)] s120) fun r123 s122 =>
                  zbo r123 <|
                  some (some (.inl r123), s122))
                else (
                  zcI (C 10 [.inr (.inr 36), .inr (.inr 2)] s120) fun r125 s124 =>
                  if ¬ r125 = 0 then (
                    let s126 : zS := zs s124 42 0 ((zg s124 42 0) + (1 : Int32))
                    zcI (C 62 [.inr (.inr 2), .inl x115, .inr (.inr 36)] s126) fun r128 s127 =>
                    zcI (C 20 [.inr (.inr 42), .inr (.inr 2), .inl r128] s127) fun r130 s129 =>
                    zbo r130 <|
                    some (some (.inl r130), s129))
                  else (
                    zcI (C 27 [.inr (.inr 42), .inl (zg s 42 3)] s124) fun r132 s131 =>
                    zbo r132 <|
                    some (some (.inl r132), s131))))
              else (
                zcI (C 19 [.inr (.inr 42), .inr (.inr 2), .inr (.inr 36)] s118) fun r134 s133 =>
                if ¬ r134 = 0 then (
                  zcI (C 61 [.inr (.inr 2)] s133) fun r136 s135 =>
                  if ¬ r136 = 0 then (
                    zcI (C 27 [.inr (.inr 42), .inl (zg s 42 3)] s135) fun r138 s137 =>
                    zbo r138 <|
                    some (some (.inl r138), s137))
                  else (
                    zcI (C 10 [.inr (.inr 36), .inr (.inr 2)] s135) fun r140 s139 =>
                    if ¬ r140 = 0 then (
                      let s141 : zS := zs s139 42 0 ((zg s139 42 0) + (1 : Int32))
                      zcI (C 62 [.inr (.inr 2), .inl x115, .inr (.inr 36)] s141) fun r143 s142 =>
                      zcI (C 20 [.inr (.inr 42), .inr (.inr 2), .inl r143] s142) fun r145 s144 =>
                      zbo r145 <|
                      some (some (.inl r145), s144))
                    else (
                      zcI (C 27 [.inr (.inr 42), .inl (zg s 42 3)] s139) fun r147 s146 =>
                      zbo r147 <|
                      some (some (.inl r147), s146))))
                else (
                  zbo (0 : Int32) <|
                  some (some (.inl (0 : Int32)), s133))))
            else (
              zcI (C 27 [.inr (.inr 42), .inl (zg s113 42 3)] s113) fun r149 s148 =>
              zbo r149 <|
              some (some (.inl r149), s148))))
        else (
          zbo (0 : Int32) <|
          some (some (.inl (0 : Int32)), s107)))))
set_option maxRecDepth 100000 in
set_option maxHeartbeats 4000000 in
theorem bX_D_readItem_0_e (C : Nat → List zV → zS → zR) (J : Nat → zL → List zV → zS → zR) (s : zS) : zline skX C J zT_D_readItem 3 500 (zT_D_readItem.drop 0) [some (.inr (.inr 42)), some (.inr (.inr 2)), some (.inr (.inr 36)), none, none] [] s = bX_D_readItem_0 C J s := rfl
def bX_D_digitStands_0 (C : Nat → List zV → zS → zR) (J : Nat → zL → List zV → zS → zR) (s : zS) : zR :=
  if (zg s 42 2) ≤ (zg s 42 3) then (
    zbo (0 : Int32) <|
    some (some (.inl (0 : Int32)), s))
  else (
    zin (zg s 42 3) 160 <|
    if (zg s 43 (Int32.toNatClampNeg (zg s 42 3))) < (48 : Int32) then (
      zbo (0 : Int32) <|
      some (some (.inl (0 : Int32)), s))
    else (
      zin (zg s 42 3) 160 <|
      if (57 : Int32) < (zg s 43 (Int32.toNatClampNeg (zg s 42 3))) then (
        zbo (0 : Int32) <|
        some (some (.inl (0 : Int32)), s))
      else (
        zbo (1 : Int32) <|
        some (some (.inl (1 : Int32)), s))))
set_option maxRecDepth 100000 in
set_option maxHeartbeats 4000000 in
theorem bX_D_digitStands_0_e (C : Nat → List zV → zS → zR) (J : Nat → zL → List zV → zS → zR) (s : zS) : zline skX C J zT_D_digitStands 3 500 (zT_D_digitStands.drop 0) [some (.inr (.inr 42))] [] s = bX_D_digitStands_0 C J s := rfl
def bX_D_readParents_0 (C : Nat → List zV → zS → zR) (J : Nat → zL → List zV → zS → zR) (s : zS) : zR :=
  J 2 [some (.inr (.inr 42)), some (.inr (.inr 2)), some (.inr (.inr 36)), some (.inl (0 : Int32)), none] [] s
set_option maxRecDepth 100000 in
set_option maxHeartbeats 4000000 in
theorem bX_D_readParents_0_e (C : Nat → List zV → zS → zR) (J : Nat → zL → List zV → zS → zR) (s : zS) : zline skX C J zT_D_readParents 3 500 (zT_D_readParents.drop 0) [some (.inr (.inr 42)), some (.inr (.inr 2)), some (.inr (.inr 36)), none, none] [] s = bX_D_readParents_0 C J s := rfl
def bX_D_readParents_2 (C : Nat → List zV → zS → zR) (J : Nat → zL → List zV → zS → zR) (x3 : Int32) (s : zS) : zR :=
  if (3 : Int32) ≤ x3 then (
    zcI (C 27 [.inr (.inr 42), .inl (zg s 42 3)] s) fun r102 s101 =>
    zbo r102 <|
    some (some (.inl r102), s101))
  else (
    let s103 : zS := zs s 42 3 ((zg s 42 3) + (1 : Int32))
    zcI (C 23 [.inr (.inr 42), .inl (0 : Int32)] s103) fun r105 s104 =>
    if ¬ r105 = 0 then (
      zcI (C 60 [.inr (.inr 2), .inl (zg s104 42 5)] s104) fun r107 s106 =>
      if r107 = 0 then (
        zcI (C 27 [.inr (.inr 42), .inl ((zg s 42 3) + (1 : Int32))] s106) fun r109 s108 =>
        zbo r109 <|
        some (some (.inl r109), s108))
      else (
        zin (zg s106 42 5) 16 <|
        if (zg s106 3 (Int32.toNatClampNeg (zg s106 42 5))) = (2 : Int32) then (
          zcI (C 27 [.inr (.inr 42), .inl ((zg s 42 3) + (1 : Int32))] s106) fun r111 s110 =>
          zbo r111 <|
          some (some (.inl r111), s110))
        else (
          zcI (C 7 [.inr (.inr 36), .inl (zg s106 42 5)] s106) fun r113 s112 =>
          if r113 = 0 then (
            zcV (C 8 [.inr (.inr 36), .inl (zg s112 42 5)] s112) fun s114 =>
            zcI (C 25 [.inr (.inr 42), .inl (44 : Int32)] s114) fun r116 s115 =>
            if ¬ r116 = 0 then (
              J 2 [some (.inr (.inr 42)), some (.inr (.inr 2)), some (.inr (.inr 36)), some (.inl (x3 + (1 : Int32))), none] [] s115)
            else (
              zbo (1 : Int32) <|
              some (some (.inl (1 : Int32)), s115)))
          else (
            zcI (C 27 [.inr (.inr 42), .inl ((zg s 42 3) + (1 : Int32))] s112) fun r118 s117 =>
            zbo r118 <|
            some (some (.inl r118), s117)))))
    else (
      zbo (0 : Int32) <|
      some (some (.inl (0 : Int32)), s104)))
set_option maxRecDepth 100000 in
set_option maxHeartbeats 4000000 in
theorem bX_D_readParents_2_e (C : Nat → List zV → zS → zR) (J : Nat → zL → List zV → zS → zR) (x3 : Int32) (s : zS) : zline skX C J zT_D_readParents 3 500 (zT_D_readParents.drop 2) [some (.inr (.inr 42)), some (.inr (.inr 2)), some (.inr (.inr 36)), some (.inl x3), none] [] s = bX_D_readParents_2 C J x3 s := rfl
def bX_D_readNumber_0 (C : Nat → List zV → zS → zR) (J : Nat → zL → List zV → zS → zR) (x1 : Int32) (s : zS) : zR :=
  if x1 = 0 then (
    J 8 [some (.inr (.inr 42)), none, none] [] s)
  else (
    zcI (C 25 [.inr (.inr 42), .inl (45 : Int32)] s) fun r102 s101 =>
    if r102 = 0 then (
      J 8 [some (.inr (.inr 42)), none, none] [] s101)
    else (
      if (1 : Int32) = 0 then (
        zcI (C 26 [.inr (.inr 42)] s101) fun r104 s103 =>
        if ¬ r104 = 0 then (
          zin (zg s103 42 3) 160 <|
          let s105 : zS := zs s103 42 5 ((zg s103 43 (Int32.toNatClampNeg (zg s103 42 3))) - (48 : Int32))
          let s106 : zS := zs s105 42 3 ((zg s103 42 3) + (1 : Int32))
          zcI (C 26 [.inr (.inr 42)] s106) fun r108 s107 =>
          if r108 = 0 then (
            if (1 : Int32) = 0 then (
              zbo (1 : Int32) <|
              some (some (.inl (1 : Int32)), s107))
            else (
              let s109 : zS := zs s107 42 5 (-(zg s107 42 5))
              zbo (1 : Int32) <|
              some (some (.inl (1 : Int32)), s109)))
          else (
            zin (zg s107 42 3) 160 <|
            let s110 : zS := zs s107 42 5 ((((zg s107 42 5) * (10 : Int32)) + (zg s107 43 (Int32.toNatClampNeg (zg s107 42 3)))) - (48 : Int32))
            let s111 : zS := zs s110 42 3 ((zg s107 42 3) + (1 : Int32))
            if (1 : Int32) = 0 then (
              zbo (1 : Int32) <|
              some (some (.inl (1 : Int32)), s111))
            else (
              let s112 : zS := zs s111 42 5 (-((((zg s107 42 5) * (10 : Int32)) + (zg s107 43 (Int32.toNatClampNeg (zg s107 42 3)))) - (48 : Int32)))
              zbo (1 : Int32) <|
              some (some (.inl (1 : Int32)), s112))))
        else (
          zcI (C 27 [.inr (.inr 42), .inl (zg s103 42 3)] s103) fun r114 s113 =>
          zbo r114 <|
          some (some (.inl r114), s113)))
      else (
        let s115 : zS := zs s101 42 3 ((zg s101 42 3) + (1 : Int32))
        zcI (C 26 [.inr (.inr 42)] s115) fun r117 s116 =>
        if ¬ r117 = 0 then (
          zin (zg s116 42 3) 160 <|
          let s118 : zS := zs s116 42 5 ((zg s116 43 (Int32.toNatClampNeg (zg s116 42 3))) - (48 : Int32))
          let s119 : zS := zs s118 42 3 ((zg s116 42 3) + (1 : Int32))
          zcI (C 26 [.inr (.inr 42)] s119) fun r121 s120 =>
          if r121 = 0 then (
            if (1 : Int32) = 0 then (
              zbo (1 : Int32) <|
              some (some (.inl (1 : Int32)), s120))
            else (
              let s122 : zS := zs s120 42 5 (-(zg s120 42 5))
              zbo (1 : Int32) <|
              some (some (.inl (1 : Int32)), s122)))
          else (
            zin (zg s120 42 3) 160 <|
            let s123 : zS := zs s120 42 5 ((((zg s120 42 5) * (10 : Int32)) + (zg s120 43 (Int32.toNatClampNeg (zg s120 42 3)))) - (48 : Int32))
            let s124 : zS := zs s123 42 3 ((zg s120 42 3) + (1 : Int32))
            if (1 : Int32) = 0 then (
              zbo (1 : Int32) <|
              some (some (.inl (1 : Int32)), s124))
            else (
              let s125 : zS := zs s124 42 5 (-((((zg s120 42 5) * (10 : Int32)) + (zg s120 43 (Int32.toNatClampNeg (zg s120 42 3)))) - (48 : Int32)))
              zbo (1 : Int32) <|
              some (some (.inl (1 : Int32)), s125))))
        else (
          zcI (C 27 [.inr (.inr 42), .inl (zg s116 42 3)] s116) fun r127 s126 =>
          zbo r127 <|
          some (some (.inl r127), s126)))))
set_option maxRecDepth 100000 in
set_option maxHeartbeats 4000000 in
theorem bX_D_readNumber_0_e (C : Nat → List zV → zS → zR) (J : Nat → zL → List zV → zS → zR) (x1 : Int32) (s : zS) : zline skX C J zT_D_readNumber 3 500 (zT_D_readNumber.drop 0) [some (.inr (.inr 42)), some (.inl x1), none] [] s = bX_D_readNumber_0 C J x1 s := rfl
def bX_D_readNumber_8 (C : Nat → List zV → zS → zR) (J : Nat → zL → List zV → zS → zR) (s : zS) : zR :=
  if (0 : Int32) = 0 then (
    zcI (C 26 [.inr (.inr 42)] s) fun r102 s101 =>
    if ¬ r102 = 0 then (
      zin (zg s101 42 3) 160 <|
      let s103 : zS := zs s101 42 5 ((zg s101 43 (Int32.toNatClampNeg (zg s101 42 3))) - (48 : Int32))
      let s104 : zS := zs s103 42 3 ((zg s101 42 3) + (1 : Int32))
      zcI (C 26 [.inr (.inr 42)] s104) fun r106 s105 =>
      if r106 = 0 then (
        if (0 : Int32) = 0 then (
          zbo (1 : Int32) <|
          some (some (.inl (1 : Int32)), s105))
        else (
          let s107 : zS := zs s105 42 5 (-(zg s105 42 5))
          zbo (1 : Int32) <|
          some (some (.inl (1 : Int32)), s107)))
      else (
        zin (zg s105 42 3) 160 <|
        let s108 : zS := zs s105 42 5 ((((zg s105 42 5) * (10 : Int32)) + (zg s105 43 (Int32.toNatClampNeg (zg s105 42 3)))) - (48 : Int32))
        let s109 : zS := zs s108 42 3 ((zg s105 42 3) + (1 : Int32))
        if (0 : Int32) = 0 then (
          zbo (1 : Int32) <|
          some (some (.inl (1 : Int32)), s109))
        else (
          let s110 : zS := zs s109 42 5 (-((((zg s105 42 5) * (10 : Int32)) + (zg s105 43 (Int32.toNatClampNeg (zg s105 42 3)))) - (48 : Int32)))
          zbo (1 : Int32) <|
          some (some (.inl (1 : Int32)), s110))))
    else (
      zcI (C 27 [.inr (.inr 42), .inl (zg s101 42 3)] s101) fun r112 s111 =>
      zbo r112 <|
      some (some (.inl r112), s111)))
  else (
    let s113 : zS := zs s 42 3 ((zg s 42 3) + (1 : Int32))
    zcI (C 26 [.inr (.inr 42)] s113) fun r115 s114 =>
    if ¬ r115 = 0 then (
      zin (zg s114 42 3) 160 <|
      let s116 : zS := zs s114 42 5 ((zg s114 43 (Int32.toNatClampNeg (zg s114 42 3))) - (48 : Int32))
      let s117 : zS := zs s116 42 3 ((zg s114 42 3) + (1 : Int32))
      zcI (C 26 [.inr (.inr 42)] s117) fun r119 s118 =>
      if r119 = 0 then (
        if (0 : Int32) = 0 then (
          zbo (1 : Int32) <|
          some (some (.inl (1 : Int32)), s118))
        else (
          let s120 : zS := zs s118 42 5 (-(zg s118 42 5))
          zbo (1 : Int32) <|
          some (some (.inl (1 : Int32)), s120)))
      else (
        zin (zg s118 42 3) 160 <|
        let s121 : zS := zs s118 42 5 ((((zg s118 42 5) * (10 : Int32)) + (zg s118 43 (Int32.toNatClampNeg (zg s118 42 3)))) - (48 : Int32))
        let s122 : zS := zs s121 42 3 ((zg s118 42 3) + (1 : Int32))
        if (0 : Int32) = 0 then (
          zbo (1 : Int32) <|
          some (some (.inl (1 : Int32)), s122))
        else (
          let s123 : zS := zs s122 42 5 (-((((zg s118 42 5) * (10 : Int32)) + (zg s118 43 (Int32.toNatClampNeg (zg s118 42 3)))) - (48 : Int32)))
          zbo (1 : Int32) <|
          some (some (.inl (1 : Int32)), s123))))
    else (
      zcI (C 27 [.inr (.inr 42), .inl (zg s114 42 3)] s114) fun r125 s124 =>
      zbo r125 <|
      some (some (.inl r125), s124)))
set_option maxRecDepth 100000 in
set_option maxHeartbeats 4000000 in
theorem bX_D_readNumber_8_e (C : Nat → List zV → zS → zR) (J : Nat → zL → List zV → zS → zR) (s : zS) : zline skX C J zT_D_readNumber 3 500 (zT_D_readNumber.drop 8) [some (.inr (.inr 42)), none, none] [] s = bX_D_readNumber_8 C J s := rfl
def bX_G_tellOneMore_0 (C : Nat → List zV → zS → zR) (J : Nat → zL → List zV → zS → zR) (x1 : Int32) (s : zS) : zR :=
  if (3 : Int32) ≤ (zg s 36 1) then (
    some (none, s))
  else (
    zin (zg s 36 1) 3 <|
    let s101 : zS := zs s 37 (Int32.toNatClampNeg (zg s 36 1)) x1
    let s102 : zS := zs s101 36 1 ((zg s 36 1) + (1 : Int32))
    some (none, s102))
set_option maxRecDepth 100000 in
set_option maxHeartbeats 4000000 in
theorem bX_G_tellOneMore_0_e (C : Nat → List zV → zS → zR) (J : Nat → zL → List zV → zS → zR) (x1 : Int32) (s : zS) : zline skX C J zT_G_tellOneMore 0 500 (zT_G_tellOneMore.drop 0) [some (.inr (.inr 36)), some (.inl x1)] [] s = bX_G_tellOneMore_0 C J x1 s := rfl
def bX_G_tells_0 (C : Nat → List zV → zS → zR) (J : Nat → zL → List zV → zS → zR) (x1 : Int32) (s : zS) : zR :=
  J 2 [some (.inr (.inr 36)), some (.inl x1), some (.inl (0 : Int32))] [] s
set_option maxRecDepth 100000 in
set_option maxHeartbeats 4000000 in
theorem bX_G_tells_0_e (C : Nat → List zV → zS → zR) (J : Nat → zL → List zV → zS → zR) (x1 : Int32) (s : zS) : zline skX C J zT_G_tells 3 500 (zT_G_tells.drop 0) [some (.inr (.inr 36)), some (.inl x1), none] [] s = bX_G_tells_0 C J x1 s := rfl
def bX_G_tells_2 (C : Nat → List zV → zS → zR) (J : Nat → zL → List zV → zS → zR) (x1 : Int32) (x2 : Int32) (s : zS) : zR :=
  if (zg s 36 1) ≤ x2 then (
    zbo (0 : Int32) <|
    some (some (.inl (0 : Int32)), s))
  else (
    zin x2 3 <|
    if ¬ (zg s 37 (Int32.toNatClampNeg x2)) = x1 then (
      J 2 [some (.inr (.inr 36)), some (.inl x1), some (.inl (x2 + (1 : Int32)))] [] s)
    else (
      zbo (1 : Int32) <|
      some (some (.inl (1 : Int32)), s)))
set_option maxRecDepth 100000 in
set_option maxHeartbeats 4000000 in
theorem bX_G_tells_2_e (C : Nat → List zV → zS → zR) (J : Nat → zL → List zV → zS → zR) (x1 : Int32) (x2 : Int32) (s : zS) : zline skX C J zT_G_tells 3 500 (zT_G_tells.drop 2) [some (.inr (.inr 36)), some (.inl x1), some (.inl x2)] [] s = bX_G_tells_2 C J x1 x2 s := rfl
def bX_D_readSlots_0 (C : Nat → List zV → zS → zR) (J : Nat → zL → List zV → zS → zR) (x2 : Int32) (s : zS) : zR :=
  J 2 [some (.inr (.inr 42)), some (.inr (.inr 2)), some (.inl x2), some (.inl (0 : Int32)), none] [] s
set_option maxRecDepth 100000 in
set_option maxHeartbeats 4000000 in
theorem bX_D_readSlots_0_e (C : Nat → List zV → zS → zR) (J : Nat → zL → List zV → zS → zR) (x2 : Int32) (s : zS) : zline skX C J zT_D_readSlots 3 500 (zT_D_readSlots.drop 0) [some (.inr (.inr 42)), some (.inr (.inr 2)), some (.inl x2), none, none] [] s = bX_D_readSlots_0 C J x2 s := rfl
def bX_D_readSlots_2 (C : Nat → List zV → zS → zR) (J : Nat → zL → List zV → zS → zR) (x2 : Int32) (x3 : Int32) (s : zS) : zR :=
  if (160 : Int32) ≤ x3 then (
    zbo (1 : Int32) <|
    some (some (.inl (1 : Int32)), s))
  else (
    zcI (C 25 [.inr (.inr 42), .inl (32 : Int32)] s) fun r102 s101 =>
    if r102 = 0 then (
      zbo (1 : Int32) <|
      some (some (.inl (1 : Int32)), s101))
    else (
      let s103 : zS := zs s101 42 3 ((zg s101 42 3) + (1 : Int32))
      if (zg s101 42 2) ≤ ((zg s101 42 3) + (1 : Int32)) then (
        zcI (C 27 [.inr (.inr 42), .inl ((zg s101 42 3) + (1 : Int32))] s103) fun r105 s104 =>
        zbo r105 <|
        some (some (.inl r105), s104))
      else (
        zin ((zg s101 42 3) + (1 : Int32)) 160 <|
        if (zg s101 43 (Int32.toNatClampNeg ((zg s101 42 3) + (1 : Int32)))) < (97 : Int32) then (
          zcI (C 27 [.inr (.inr 42), .inl ((zg s101 42 3) + (1 : Int32))] s103) fun r107 s106 =>
          zbo r107 <|
          some (some (.inl r107), s106))
        else (
          zin ((zg s101 42 3) + (1 : Int32)) 160 <|
          if (zg s101 43 (Int32.toNatClampNeg ((zg s101 42 3) + (1 : Int32)))) < (113 : Int32) then (
            zin ((zg s101 42 3) + (1 : Int32)) 160 <|
            let x108 : Int32 := ((zg s101 43 (Int32.toNatClampNeg ((zg s101 42 3) + (1 : Int32)))) - (97 : Int32))
            let s109 : zS := zs s103 42 3 (((zg s101 42 3) + (1 : Int32)) + (1 : Int32))
            zcI (C 25 [.inr (.inr 42), .inl (58 : Int32)] s109) fun r111 s110 =>
            if r111 = 0 then (
              zcI (C 21 [.inr (.inr 42), .inr (.inr 2), .inl x2, .inl x108] s110) fun r113 s112 =>
              if ¬ r113 = 0 then (
                J 2 [some (.inr (.inr 42)), some (.inr (.inr 2)), some (.inl x2), some (.inl (x3 + (1 : Int32))), none] [] s112)
              else (
                zbo (0 : Int32) <|
                some (some (.inl (0 : Int32)), s112)))
            else (
              zcI (C 22 [.inr (.inr 42), .inr (.inr 2), .inl x2, .inl x108] s110) fun r115 s114 =>
              if r115 = 0 then (
                zbo (0 : Int32) <|
                some (some (.inl (0 : Int32)), s114))
              else (
                J 2 [some (.inr (.inr 42)), some (.inr (.inr 2)), some (.inl x2), some (.inl (x3 + (1 : Int32))), none] [] s114)))
          else (
            zcI (C 27 [.inr (.inr 42), .inl ((zg s101 42 3) + (1 : Int32))] s103) fun r117 s116 =>
            zbo r117 <|
            some (some (.inl r117), s116))))))
set_option maxRecDepth 100000 in
set_option maxHeartbeats 4000000 in
theorem bX_D_readSlots_2_e (C : Nat → List zV → zS → zR) (J : Nat → zL → List zV → zS → zR) (x2 : Int32) (x3 : Int32) (s : zS) : zline skX C J zT_D_readSlots 3 500 (zT_D_readSlots.drop 2) [some (.inr (.inr 42)), some (.inr (.inr 2)), some (.inl x2), some (.inl x3), none] [] s = bX_D_readSlots_2 C J x2 x3 s := rfl
def bX_D_readMethod_0 (C : Nat → List zV → zS → zR) (J : Nat → zL → List zV → zS → zR) (x2 : Int32) (x3 : Int32) (s : zS) : zR :=
  let s101 : zS := zs s 42 3 ((zg s 42 3) + (1 : Int32))
  zcI (C 26 [.inr (.inr 42)] s101) fun r103 s102 =>
  if ¬ r103 = 0 then (
    zin (zg s102 42 3) 160 <|
    let x104 : Int32 := ((zg s102 43 (Int32.toNatClampNeg (zg s102 42 3))) - (48 : Int32))
    let s105 : zS := zs s102 42 3 ((zg s102 42 3) + (1 : Int32))
    zcI (C 24 [.inr (.inr 42), .inl (46 : Int32)] s105) fun r107 s106 =>
    if r107 = 0 then (
      zbo (0 : Int32) <|
      some (some (.inl (0 : Int32)), s106))
    else (
      zcI (C 23 [.inr (.inr 42), .inl (1 : Int32)] s106) fun r109 s108 =>
      if ¬ r109 = 0 then (
        zcV (C 70 [.inr (.inr 2), .inl x2, .inl x3, .inl x104, .inl (zg s108 42 5)] s108) fun s110 =>
        zbo (1 : Int32) <|
        some (some (.inl (1 : Int32)), s110))
      else (
        zbo (0 : Int32) <|
        some (some (.inl (0 : Int32)), s108))))
  else (
    zcI (C 27 [.inr (.inr 42), .inl (zg s102 42 3)] s102) fun r112 s111 =>
    zbo r112 <|
    some (some (.inl r112), s111))
set_option maxRecDepth 100000 in
set_option maxHeartbeats 4000000 in
theorem bX_D_readMethod_0_e (C : Nat → List zV → zS → zR) (J : Nat → zL → List zV → zS → zR) (x2 : Int32) (x3 : Int32) (s : zS) : zline skX C J zT_D_readMethod 3 500 (zT_D_readMethod.drop 0) [some (.inr (.inr 42)), some (.inr (.inr 2)), some (.inl x2), some (.inl x3), none] [] s = bX_D_readMethod_0 C J x2 x3 s := rfl
def bX_W_putMethod_0 (C : Nat → List zV → zS → zR) (J : Nat → zL → List zV → zS → zR) (x1 : Int32) (x2 : Int32) (x3 : Int32) (x4 : Int32) (s : zS) : zR :=
  zin ((x1 * (16 : Int32)) + x2) 256 <|
  let s101 : zS := zs s 8 (Int32.toNatClampNeg ((x1 * (16 : Int32)) + x2)) (2 : Int32)
  zin ((x1 * (16 : Int32)) + x2) 256 <|
  let s102 : zS := zs s101 9 (Int32.toNatClampNeg ((x1 * (16 : Int32)) + x2)) x3
  zin ((x1 * (16 : Int32)) + x2) 256 <|
  let s103 : zS := zs s102 10 (Int32.toNatClampNeg ((x1 * (16 : Int32)) + x2)) x4
  some (none, s103)
set_option maxRecDepth 100000 in
set_option maxHeartbeats 4000000 in
theorem bX_W_putMethod_0_e (C : Nat → List zV → zS → zR) (J : Nat → zL → List zV → zS → zR) (x1 : Int32) (x2 : Int32) (x3 : Int32) (x4 : Int32) (s : zS) : zline skX C J zT_W_putMethod 0 500 (zT_W_putMethod.drop 0) [some (.inr (.inr 2)), some (.inl x1), some (.inl x2), some (.inl x3), some (.inl x4)] [] s = bX_W_putMethod_0 C J x1 x2 x3 x4 s := rfl
def bX_D_readValue_0 (C : Nat → List zV → zS → zR) (J : Nat → zL → List zV → zS → zR) (x2 : Int32) (x3 : Int32) (s : zS) : zR :=
  zcI (C 24 [.inr (.inr 42), .inl (61 : Int32)] s) fun r102 s101 =>
  if r102 = 0 then (
    zbo (0 : Int32) <|
    some (some (.inl (0 : Int32)), s101))
  else (
    zcI (C 23 [.inr (.inr 42), .inl (1 : Int32)] s101) fun r104 s103 =>
    if ¬ r104 = 0 then (
      zcV (C 69 [.inr (.inr 2), .inl x2, .inl x3, .inl (zg s103 42 5)] s103) fun s105 =>
      zbo (1 : Int32) <|
      some (some (.inl (1 : Int32)), s105))
    else (
      zbo (0 : Int32) <|
      some (some (.inl (0 : Int32)), s103)))
set_option maxRecDepth 100000 in
set_option maxHeartbeats 4000000 in
theorem bX_D_readValue_0_e (C : Nat → List zV → zS → zR) (J : Nat → zL → List zV → zS → zR) (x2 : Int32) (x3 : Int32) (s : zS) : zline skX C J zT_D_readValue 3 500 (zT_D_readValue.drop 0) [some (.inr (.inr 42)), some (.inr (.inr 2)), some (.inl x2), some (.inl x3)] [] s = bX_D_readValue_0 C J x2 x3 s := rfl
def bX_W_putValue_0 (C : Nat → List zV → zS → zR) (J : Nat → zL → List zV → zS → zR) (x1 : Int32) (x2 : Int32) (x3 : Int32) (s : zS) : zR :=
  zin ((x1 * (16 : Int32)) + x2) 256 <|
  let s101 : zS := zs s 8 (Int32.toNatClampNeg ((x1 * (16 : Int32)) + x2)) (1 : Int32)
  zin ((x1 * (16 : Int32)) + x2) 256 <|
  let s102 : zS := zs s101 9 (Int32.toNatClampNeg ((x1 * (16 : Int32)) + x2)) (0 : Int32)
  zin ((x1 * (16 : Int32)) + x2) 256 <|
  let s103 : zS := zs s102 10 (Int32.toNatClampNeg ((x1 * (16 : Int32)) + x2)) x3
  some (none, s103)
set_option maxRecDepth 100000 in
set_option maxHeartbeats 4000000 in
theorem bX_W_putValue_0_e (C : Nat → List zV → zS → zR) (J : Nat → zL → List zV → zS → zR) (x1 : Int32) (x2 : Int32) (x3 : Int32) (s : zS) : zline skX C J zT_W_putValue 0 500 (zT_W_putValue.drop 0) [some (.inr (.inr 2)), some (.inl x1), some (.inl x2), some (.inl x3)] [] s = bX_W_putValue_0 C J x1 x2 x3 s := rfl
def bX_G_findOrder_0 (C : Nat → List zV → zS → zR) (J : Nat → zL → List zV → zS → zR) (s : zS) : zR :=
  zcV (C 11 [.inr (.inr 36), .inr (.inr 2)] s) fun s101 =>
  let s102 : zS := zs s101 36 3 (0 : Int32)
  J 8 [some (.inr (.inr 36)), none, some (.inl (0 : Int32)), none] [] s102
set_option maxRecDepth 100000 in
set_option maxHeartbeats 4000000 in
theorem bX_G_findOrder_0_e (C : Nat → List zV → zS → zR) (J : Nat → zL → List zV → zS → zR) (s : zS) : zline skX C J zT_G_findOrder 3 500 (zT_G_findOrder.drop 0) [some (.inr (.inr 36)), some (.inr (.inr 2)), none, none] [] s = bX_G_findOrder_0 C J s := rfl
def bX_G_findOrder_8 (C : Nat → List zV → zS → zR) (J : Nat → zL → List zV → zS → zR) (x2 : Int32) (s : zS) : zR :=
  if (16 : Int32) < x2 then (
    zbo (0 : Int32) <|
    some (some (.inl (0 : Int32)), s))
  else (
    zcI (C 12 [.inr (.inr 36)] s) fun r102 s101 =>
    if r102 = 0 then (
      zcI (C 13 [.inr (.inr 36)] s101) fun r104 s103 =>
      if r104 = (-1 : Int32) then (
        zbo (0 : Int32) <|
        some (some (.inl (0 : Int32)), s103))
      else (
        if (zg s103 36 3) < (16 : Int32) then (
          zin (zg s103 36 3) 16 <|
          let s105 : zS := zs s103 38 (Int32.toNatClampNeg (zg s103 36 3)) r104
          let s106 : zS := zs s105 36 3 ((zg s103 36 3) + (1 : Int32))
          zcV (C 15 [.inr (.inr 36), .inl r104] s106) fun s107 =>
          J 8 [some (.inr (.inr 36)), none, some (.inl (x2 + (1 : Int32))), none] [] s107)
        else (
          zbo (0 : Int32) <|
          some (some (.inl (0 : Int32)), s103))))
    else (
      zbo (1 : Int32) <|
      some (some (.inl (1 : Int32)), s101)))
set_option maxRecDepth 100000 in
set_option maxHeartbeats 4000000 in
theorem bX_G_findOrder_8_e (C : Nat → List zV → zS → zR) (J : Nat → zL → List zV → zS → zR) (x2 : Int32) (s : zS) : zline skX C J zT_G_findOrder 3 500 (zT_G_findOrder.drop 8) [some (.inr (.inr 36)), none, some (.inl x2), none] [] s = bX_G_findOrder_8 C J x2 s := rfl
def bX_G_areAllEmpty_0 (C : Nat → List zV → zS → zR) (J : Nat → zL → List zV → zS → zR) (s : zS) : zR :=
  J 2 [some (.inr (.inr 36)), some (.inl (0 : Int32))] [] s
set_option maxRecDepth 100000 in
set_option maxHeartbeats 4000000 in
theorem bX_G_areAllEmpty_0_e (C : Nat → List zV → zS → zR) (J : Nat → zL → List zV → zS → zR) (s : zS) : zline skX C J zT_G_areAllEmpty 3 500 (zT_G_areAllEmpty.drop 0) [some (.inr (.inr 36)), none] [] s = bX_G_areAllEmpty_0 C J s := rfl
def bX_G_areAllEmpty_2 (C : Nat → List zV → zS → zR) (J : Nat → zL → List zV → zS → zR) (x1 : Int32) (s : zS) : zR :=
  if (4 : Int32) ≤ x1 then (
    zbo (1 : Int32) <|
    some (some (.inl (1 : Int32)), s))
  else (
    zin x1 4 <|
    zin x1 4 <|
    if (zg s 41 (Int32.toNatClampNeg x1)) ≤ (zg s 40 (Int32.toNatClampNeg x1)) then (
      J 2 [some (.inr (.inr 36)), some (.inl (x1 + (1 : Int32)))] [] s)
    else (
      zbo (0 : Int32) <|
      some (some (.inl (0 : Int32)), s)))
set_option maxRecDepth 100000 in
set_option maxHeartbeats 4000000 in
theorem bX_G_areAllEmpty_2_e (C : Nat → List zV → zS → zR) (J : Nat → zL → List zV → zS → zR) (x1 : Int32) (s : zS) : zline skX C J zT_G_areAllEmpty 3 500 (zT_G_areAllEmpty.drop 2) [some (.inr (.inr 36)), some (.inl x1)] [] s = bX_G_areAllEmpty_2 C J x1 s := rfl
def bX_G_findNext_0 (C : Nat → List zV → zS → zR) (J : Nat → zL → List zV → zS → zR) (s : zS) : zR :=
  J 2 [some (.inr (.inr 36)), some (.inl (0 : Int32)), none] [] s
set_option maxRecDepth 100000 in
set_option maxHeartbeats 4000000 in
theorem bX_G_findNext_0_e (C : Nat → List zV → zS → zR) (J : Nat → zL → List zV → zS → zR) (s : zS) : zline skX C J zT_G_findNext 1 500 (zT_G_findNext.drop 0) [some (.inr (.inr 36)), none, none] [] s = bX_G_findNext_0 C J s := rfl
def bX_G_findNext_2 (C : Nat → List zV → zS → zR) (J : Nat → zL → List zV → zS → zR) (x1 : Int32) (s : zS) : zR :=
  if (4 : Int32) ≤ x1 then (
    some (some (.inl (-1 : Int32)), s))
  else (
    zin x1 4 <|
    zin x1 4 <|
    if (zg s 41 (Int32.toNatClampNeg x1)) ≤ (zg s 40 (Int32.toNatClampNeg x1)) then (
      J 2 [some (.inr (.inr 36)), some (.inl (x1 + (1 : Int32))), none] [] s)
    else (
      zin x1 4 <|
      zin ((x1 * (16 : Int32)) + (zg s 40 (Int32.toNatClampNeg x1))) 64 <|
      let x101 : Int32 := (zg s 39 (Int32.toNatClampNeg ((x1 * (16 : Int32)) + (zg s 40 (Int32.toNatClampNeg x1)))))
      zcI (C 14 [.inr (.inr 36), .inl x101] s) fun r103 s102 =>
      if ¬ r103 = 0 then (
        J 2 [some (.inr (.inr 36)), some (.inl (x1 + (1 : Int32))), none] [] s102)
      else (
        some (some (.inl x101), s102))))
set_option maxRecDepth 100000 in
set_option maxHeartbeats 4000000 in
theorem bX_G_findNext_2_e (C : Nat → List zV → zS → zR) (J : Nat → zL → List zV → zS → zR) (x1 : Int32) (s : zS) : zline skX C J zT_G_findNext 1 500 (zT_G_findNext.drop 2) [some (.inr (.inr 36)), some (.inl x1), none] [] s = bX_G_findNext_2 C J x1 s := rfl
def bX_G_standsBehindAFirst_0 (C : Nat → List zV → zS → zR) (J : Nat → zL → List zV → zS → zR) (x1 : Int32) (s : zS) : zR :=
  J 2 [some (.inr (.inr 36)), some (.inl x1), some (.inl (0 : Int32)), none] [] s
set_option maxRecDepth 100000 in
set_option maxHeartbeats 4000000 in
theorem bX_G_standsBehindAFirst_0_e (C : Nat → List zV → zS → zR) (J : Nat → zL → List zV → zS → zR) (x1 : Int32) (s : zS) : zline skX C J zT_G_standsBehindAFirst 3 500 (zT_G_standsBehindAFirst.drop 0) [some (.inr (.inr 36)), some (.inl x1), none, none] [] s = bX_G_standsBehindAFirst_0 C J x1 s := rfl
def bX_G_standsBehindAFirst_2 (C : Nat → List zV → zS → zR) (J : Nat → zL → List zV → zS → zR) (x1 : Int32) (x2 : Int32) (s : zS) : zR :=
  if (4 : Int32) ≤ x2 then (
    zbo (0 : Int32) <|
    some (some (.inl (0 : Int32)), s))
  else (
    zin x2 4 <|
    let x101 : Int32 := ((zg s 40 (Int32.toNatClampNeg x2)) + (1 : Int32))
    J 12 [some (.inr (.inr 36)), some (.inl x1), some (.inl x2), some (.inl x101)] [] s)
set_option maxRecDepth 100000 in
set_option maxHeartbeats 4000000 in
theorem bX_G_standsBehindAFirst_2_e (C : Nat → List zV → zS → zR) (J : Nat → zL → List zV → zS → zR) (x1 : Int32) (x2 : Int32) (s : zS) : zline skX C J zT_G_standsBehindAFirst 3 500 (zT_G_standsBehindAFirst.drop 2) [some (.inr (.inr 36)), some (.inl x1), some (.inl x2), none] [] s = bX_G_standsBehindAFirst_2 C J x1 x2 s := rfl
def bX_G_standsBehindAFirst_12 (C : Nat → List zV → zS → zR) (J : Nat → zL → List zV → zS → zR) (x1 : Int32) (x2 : Int32) (x3 : Int32) (s : zS) : zR :=
  zin x2 4 <|
  if (zg s 41 (Int32.toNatClampNeg x2)) ≤ x3 then (
    J 2 [some (.inr (.inr 36)), some (.inl x1), some (.inl (x2 + (1 : Int32))), none] [] s)
  else (
    zin ((x2 * (16 : Int32)) + x3) 64 <|
    if ¬ (zg s 39 (Int32.toNatClampNeg ((x2 * (16 : Int32)) + x3))) = x1 then (
      J 12 [some (.inr (.inr 36)), some (.inl x1), some (.inl x2), some (.inl (x3 + (1 : Int32)))] [] s)
    else (
      zbo (1 : Int32) <|
      some (some (.inl (1 : Int32)), s)))
set_option maxRecDepth 100000 in
set_option maxHeartbeats 4000000 in
theorem bX_G_standsBehindAFirst_12_e (C : Nat → List zV → zS → zR) (J : Nat → zL → List zV → zS → zR) (x1 : Int32) (x2 : Int32) (x3 : Int32) (s : zS) : zline skX C J zT_G_standsBehindAFirst 3 500 (zT_G_standsBehindAFirst.drop 12) [some (.inr (.inr 36)), some (.inl x1), some (.inl x2), some (.inl x3)] [] s = bX_G_standsBehindAFirst_12 C J x1 x2 x3 s := rfl
def bX_G_layRows_0 (C : Nat → List zV → zS → zR) (J : Nat → zL → List zV → zS → zR) (s : zS) : zR :=
  zcV (C 220 [.inr (.inr 40), .inl (0 : Int32)] s) fun s101 =>
  zcV (C 220 [.inr (.inr 41), .inl (0 : Int32)] s101) fun s102 =>
  J 10 [some (.inr (.inr 36)), some (.inr (.inr 2)), some (.inl (0 : Int32)), none] [] s102
set_option maxRecDepth 100000 in
set_option maxHeartbeats 4000000 in
theorem bX_G_layRows_0_e (C : Nat → List zV → zS → zR) (J : Nat → zL → List zV → zS → zR) (s : zS) : zline skX C J zT_G_layRows 0 500 (zT_G_layRows.drop 0) [some (.inr (.inr 36)), some (.inr (.inr 2)), none, none] [] s = bX_G_layRows_0 C J s := rfl
def bX_G_layRows_10 (C : Nat → List zV → zS → zR) (J : Nat → zL → List zV → zS → zR) (x2 : Int32) (s : zS) : zR :=
  if (zg s 36 1) ≤ x2 then (
    let s101 : zS := zs s 41 3 (zg s 36 1)
    zcpin (0 : Int32) (48 : Int32) (zg s 36 1) 3 64 <|
    let s102 : zS := zsc s101 37 39 (Int32.toNatClampNeg (0 : Int32)) (Int32.toNatClampNeg (48 : Int32)) (Int32.toNatClampNeg (zg s 36 1))
    some (none, s102))
  else (
    zin x2 3 <|
    zin (zg s 37 (Int32.toNatClampNeg x2)) 16 <|
    zin x2 4 <|
    let s103 : zS := zs s 41 (Int32.toNatClampNeg x2) (zg s 6 (Int32.toNatClampNeg (zg s 37 (Int32.toNatClampNeg x2))))
    zin x2 4 <|
    zcpin ((zg s 37 (Int32.toNatClampNeg x2)) * (16 : Int32)) (x2 * (16 : Int32)) (zg s103 41 (Int32.toNatClampNeg x2)) 256 64 <|
    let s104 : zS := zsc s103 7 39 (Int32.toNatClampNeg ((zg s 37 (Int32.toNatClampNeg x2)) * (16 : Int32))) (Int32.toNatClampNeg (x2 * (16 : Int32))) (Int32.toNatClampNeg (zg s103 41 (Int32.toNatClampNeg x2)))
    J 10 [some (.inr (.inr 36)), some (.inr (.inr 2)), some (.inl (x2 + (1 : Int32))), none] [] s104)
set_option maxRecDepth 100000 in
set_option maxHeartbeats 4000000 in
theorem bX_G_layRows_10_e (C : Nat → List zV → zS → zR) (J : Nat → zL → List zV → zS → zR) (x2 : Int32) (s : zS) : zline skX C J zT_G_layRows 0 500 (zT_G_layRows.drop 10) [some (.inr (.inr 36)), some (.inr (.inr 2)), some (.inl x2), none] [] s = bX_G_layRows_10 C J x2 s := rfl
def bX_J_fill2_0 (C : Nat → List zV → zS → zR) (J : Nat → zL → List zV → zS → zR) (x1 : Int32) (s : zS) : zR :=
  J 5 [some (.inr (.inr 40)), some (.inl x1), some (.inl (0 : Int32)), some (.inl (Int32.ofNat 4))] [] s
set_option maxRecDepth 100000 in
set_option maxHeartbeats 4000000 in
theorem bX_J_fill2_0_e (C : Nat → List zV → zS → zR) (J : Nat → zL → List zV → zS → zR) (x1 : Int32) (s : zS) : zline skX C J zT_J_fill2 0 500 (zT_J_fill2.drop 0) [some (.inr (.inr 40)), some (.inl x1), none, none] [] s = bX_J_fill2_0 C J x1 s := rfl
def bX_J_fill2_5 (C : Nat → List zV → zS → zR) (J : Nat → zL → List zV → zS → zR) (x1 : Int32) (x2 : Int32) (x3 : Int32) (s : zS) : zR :=
  if x3 ≤ x2 then (
    some (none, s))
  else (
    zin x2 4 <|
    let s101 : zS := zs s 40 (Int32.toNatClampNeg x2) x1
    J 5 [some (.inr (.inr 40)), some (.inl x1), some (.inl (x2 + (1 : Int32))), some (.inl x3)] [] s101)
set_option maxRecDepth 100000 in
set_option maxHeartbeats 4000000 in
theorem bX_J_fill2_5_e (C : Nat → List zV → zS → zR) (J : Nat → zL → List zV → zS → zR) (x1 : Int32) (x2 : Int32) (x3 : Int32) (s : zS) : zline skX C J zT_J_fill2 0 500 (zT_J_fill2.drop 5) [some (.inr (.inr 40)), some (.inl x1), some (.inl x2), some (.inl x3)] [] s = bX_J_fill2_5 C J x1 x2 x3 s := rfl
def bX_J_fill2_41_0 (C : Nat → List zV → zS → zR) (J : Nat → zL → List zV → zS → zR) (x1 : Int32) (s : zS) : zR :=
  J 5 [some (.inr (.inr 41)), some (.inl x1), some (.inl (0 : Int32)), some (.inl (Int32.ofNat 4))] [] s
set_option maxRecDepth 100000 in
set_option maxHeartbeats 4000000 in
theorem bX_J_fill2_41_0_e (C : Nat → List zV → zS → zR) (J : Nat → zL → List zV → zS → zR) (x1 : Int32) (s : zS) : zline skX C J zT_J_fill2 0 500 (zT_J_fill2.drop 0) [some (.inr (.inr 41)), some (.inl x1), none, none] [] s = bX_J_fill2_41_0 C J x1 s := rfl
def bX_J_fill2_41_5 (C : Nat → List zV → zS → zR) (J : Nat → zL → List zV → zS → zR) (x1 : Int32) (x2 : Int32) (x3 : Int32) (s : zS) : zR :=
  if x3 ≤ x2 then (
    some (none, s))
  else (
    zin x2 4 <|
    let s101 : zS := zs s 41 (Int32.toNatClampNeg x2) x1
    J 5 [some (.inr (.inr 41)), some (.inl x1), some (.inl (x2 + (1 : Int32))), some (.inl x3)] [] s101)
set_option maxRecDepth 100000 in
set_option maxHeartbeats 4000000 in
theorem bX_J_fill2_41_5_e (C : Nat → List zV → zS → zR) (J : Nat → zL → List zV → zS → zR) (x1 : Int32) (x2 : Int32) (x3 : Int32) (s : zS) : zline skX C J zT_J_fill2 0 500 (zT_J_fill2.drop 5) [some (.inr (.inr 41)), some (.inl x1), some (.inl x2), some (.inl x3)] [] s = bX_J_fill2_41_5 C J x1 x2 x3 s := rfl
def bX_G_takeOut_0 (C : Nat → List zV → zS → zR) (J : Nat → zL → List zV → zS → zR) (x1 : Int32) (s : zS) : zR :=
  J 2 [some (.inr (.inr 36)), some (.inl x1), some (.inl (0 : Int32))] [] s
set_option maxRecDepth 100000 in
set_option maxHeartbeats 4000000 in
theorem bX_G_takeOut_0_e (C : Nat → List zV → zS → zR) (J : Nat → zL → List zV → zS → zR) (x1 : Int32) (s : zS) : zline skX C J zT_G_takeOut 0 500 (zT_G_takeOut.drop 0) [some (.inr (.inr 36)), some (.inl x1), none] [] s = bX_G_takeOut_0 C J x1 s := rfl
def bX_G_takeOut_2 (C : Nat → List zV → zS → zR) (J : Nat → zL → List zV → zS → zR) (x1 : Int32) (x2 : Int32) (s : zS) : zR :=
  if (4 : Int32) ≤ x2 then (
    some (none, s))
  else (
    zin x2 4 <|
    zin x2 4 <|
    if (zg s 41 (Int32.toNatClampNeg x2)) ≤ (zg s 40 (Int32.toNatClampNeg x2)) then (
      J 2 [some (.inr (.inr 36)), some (.inl x1), some (.inl (x2 + (1 : Int32)))] [] s)
    else (
      zin x2 4 <|
      zin ((x2 * (16 : Int32)) + (zg s 40 (Int32.toNatClampNeg x2))) 64 <|
      if ¬ (zg s 39 (Int32.toNatClampNeg ((x2 * (16 : Int32)) + (zg s 40 (Int32.toNatClampNeg x2))))) = x1 then (
        J 2 [some (.inr (.inr 36)), some (.inl x1), some (.inl (x2 + (1 : Int32)))] [] s)
      else (
        zin x2 4 <|
        zin x2 4 <|
        let s101 : zS := zs s 40 (Int32.toNatClampNeg x2) ((zg s 40 (Int32.toNatClampNeg x2)) + (1 : Int32))
        J 2 [some (.inr (.inr 36)), some (.inl x1), some (.inl (x2 + (1 : Int32)))] [] s101)))
set_option maxRecDepth 100000 in
set_option maxHeartbeats 4000000 in
theorem bX_G_takeOut_2_e (C : Nat → List zV → zS → zR) (J : Nat → zL → List zV → zS → zR) (x1 : Int32) (x2 : Int32) (s : zS) : zline skX C J zT_G_takeOut 0 500 (zT_G_takeOut.drop 2) [some (.inr (.inr 36)), some (.inl x1), some (.inl x2)] [] s = bX_G_takeOut_2 C J x1 x2 s := rfl
def bX_G_tellNone_0 (C : Nat → List zV → zS → zR) (J : Nat → zL → List zV → zS → zR) (s : zS) : zR :=
  let s101 : zS := zs s 36 1 (0 : Int32)
  some (none, s101)
set_option maxRecDepth 100000 in
set_option maxHeartbeats 4000000 in
theorem bX_G_tellNone_0_e (C : Nat → List zV → zS → zR) (J : Nat → zL → List zV → zS → zR) (s : zS) : zline skX C J zT_G_tellNone 0 500 (zT_G_tellNone.drop 0) [some (.inr (.inr 36))] [] s = bX_G_tellNone_0 C J s := rfl
def bX_W_addObject_0 (C : Nat → List zV → zS → zR) (J : Nat → zL → List zV → zS → zR) (x1 : Int32) (s : zS) : zR :=
  zin (zg s 2 0) 16 <|
  let s101 : zS := zs s 3 (Int32.toNatClampNeg (zg s 2 0)) x1
  zin (zg s 2 0) 16 <|
  let s102 : zS := zs s101 4 (Int32.toNatClampNeg (zg s 2 0)) (zg s 36 1)
  zcpin (0 : Int32) ((zg s 2 0) * (3 : Int32)) (zg s 36 1) 3 48 <|
  let s103 : zS := zsc s102 37 5 (Int32.toNatClampNeg (0 : Int32)) (Int32.toNatClampNeg ((zg s 2 0) * (3 : Int32))) (Int32.toNatClampNeg (zg s 36 1))
  zin ((zg s 2 0) * (16 : Int32)) 256 <|
  let s104 : zS := zs s103 7 (Int32.toNatClampNeg ((zg s 2 0) * (16 : Int32))) (zg s 2 0)
  zcpin (0 : Int32) (((zg s 2 0) * (16 : Int32)) + (1 : Int32)) (zg s 36 3) 16 256 <|
  let s105 : zS := zsc s104 38 7 (Int32.toNatClampNeg (0 : Int32)) (Int32.toNatClampNeg (((zg s 2 0) * (16 : Int32)) + (1 : Int32))) (Int32.toNatClampNeg (zg s 36 3))
  zin (zg s 2 0) 16 <|
  let s106 : zS := zs s105 6 (Int32.toNatClampNeg (zg s 2 0)) ((zg s 36 3) + (1 : Int32))
  J 55 [some (.inr (.inr 2)), none, none, some (.inl (zg s 2 0)), some (.inl (0 : Int32))] [] s106
set_option maxRecDepth 100000 in
set_option maxHeartbeats 4000000 in
theorem bX_W_addObject_0_e (C : Nat → List zV → zS → zR) (J : Nat → zL → List zV → zS → zR) (x1 : Int32) (s : zS) : zline skX C J zT_W_addObject 1 500 (zT_W_addObject.drop 0) [some (.inr (.inr 2)), some (.inl x1), some (.inr (.inr 36)), none, none] [] s = bX_W_addObject_0 C J x1 s := rfl
def bX_W_addObject_55 (C : Nat → List zV → zS → zR) (J : Nat → zL → List zV → zS → zR) (x3 : Int32) (x4 : Int32) (s : zS) : zR :=
  if (16 : Int32) ≤ x4 then (
    let s101 : zS := zs s 2 0 (x3 + (1 : Int32))
    some (some (.inl x3), s101))
  else (
    zcV (C 71 [.inr (.inr 2), .inl x3, .inl x4] s) fun s102 =>
    J 55 [some (.inr (.inr 2)), none, none, some (.inl x3), some (.inl (x4 + (1 : Int32)))] [] s102)
set_option maxRecDepth 100000 in
set_option maxHeartbeats 4000000 in
theorem bX_W_addObject_55_e (C : Nat → List zV → zS → zR) (J : Nat → zL → List zV → zS → zR) (x3 : Int32) (x4 : Int32) (s : zS) : zline skX C J zT_W_addObject 1 500 (zT_W_addObject.drop 55) [some (.inr (.inr 2)), none, none, some (.inl x3), some (.inl x4)] [] s = bX_W_addObject_55 C J x3 x4 s := rfl
def bX_W_drop_0 (C : Nat → List zV → zS → zR) (J : Nat → zL → List zV → zS → zR) (x1 : Int32) (x2 : Int32) (s : zS) : zR :=
  zin ((x1 * (16 : Int32)) + x2) 256 <|
  let s101 : zS := zs s 8 (Int32.toNatClampNeg ((x1 * (16 : Int32)) + x2)) (0 : Int32)
  some (none, s101)
set_option maxRecDepth 100000 in
set_option maxHeartbeats 4000000 in
theorem bX_W_drop_0_e (C : Nat → List zV → zS → zR) (J : Nat → zL → List zV → zS → zR) (x1 : Int32) (x2 : Int32) (s : zS) : zline skX C J zT_W_drop 0 500 (zT_W_drop.drop 0) [some (.inr (.inr 2)), some (.inl x1), some (.inl x2)] [] s = bX_W_drop_0 C J x1 x2 s := rfl
def bX_W_isFull_0 (C : Nat → List zV → zS → zR) (J : Nat → zL → List zV → zS → zR) (s : zS) : zR :=
  if (zg s 2 0) < (16 : Int32) then (
    zbo (0 : Int32) <|
    some (some (.inl (0 : Int32)), s))
  else (
    zbo (1 : Int32) <|
    some (some (.inl (1 : Int32)), s))
set_option maxRecDepth 100000 in
set_option maxHeartbeats 4000000 in
theorem bX_W_isFull_0_e (C : Nat → List zV → zS → zR) (J : Nat → zL → List zV → zS → zR) (s : zS) : zline skX C J zT_W_isFull 3 500 (zT_W_isFull.drop 0) [some (.inr (.inr 2))] [] s = bX_W_isFull_0 C J s := rfl
def bX_X_fault_0 (C : Nat → List zV → zS → zR) (J : Nat → zL → List zV → zS → zR) (s : zS) : zR :=
  some (some (.inl (zg s 0 8)), s)
set_option maxRecDepth 100000 in
set_option maxHeartbeats 4000000 in
theorem bX_X_fault_0_e (C : Nat → List zV → zS → zR) (J : Nat → zL → List zV → zS → zR) (s : zS) : zline skX C J zT_X_fault 1 500 (zT_X_fault.drop 0) [some (.inr (.inr 0))] [] s = bX_X_fault_0 C J s := rfl
def bX_X_make_0 (C : Nat → List zV → zS → zR) (J : Nat → zL → List zV → zS → zR) (x1 : Int32) (x2 : Int32) (x3 : Int32) (x4 : Int32) (x5 : Int32) (s : zS) : zR :=
  zcI (C 121 [.inl x1] s) fun r102 s101 =>
  if ¬ r102 = 0 then (
    zcI (C 119 [.inr (.inr 0), .inl x2, .inl x3, .inl x4, .inl x5] s101) fun r104 s103 =>
    if r104 = 0 then (
      zcI (C 10 [.inr (.inr 36), .inr (.inr 2)] s103) fun r106 s105 =>
      if ¬ r106 = 0 then (
        zcI (C 61 [.inr (.inr 2)] s105) fun r108 s107 =>
        if r108 = 0 then (
          zcI (C 62 [.inr (.inr 2), .inl x1, .inr (.inr 36)] s107) fun r110 s109 =>
          some (some (.inl r110), s109))
        else (
          zcI (C 117 [.inr (.inr 0), .inl (-7 : Int32)] s107) fun r112 s111 =>
          some (some (.inl r112), s111)))
      else (
        zcI (C 117 [.inr (.inr 0), .inl (-6 : Int32)] s105) fun r114 s113 =>
        some (some (.inl r114), s113)))
    else (
      zcI (C 117 [.inr (.inr 0), .inl r104] s103) fun r116 s115 =>
      some (some (.inl r116), s115)))
  else (
    zcI (C 117 [.inr (.inr 0), .inl (-1 : Int32)] s101) fun r118 s117 =>
    some (some (.inl r118), s117))
set_option maxRecDepth 100000 in
set_option maxHeartbeats 4000000 in
theorem bX_X_make_0_e (C : Nat → List zV → zS → zR) (J : Nat → zL → List zV → zS → zR) (x1 : Int32) (x2 : Int32) (x3 : Int32) (x4 : Int32) (x5 : Int32) (s : zS) : zline skX C J zT_X_make 1 500 (zT_X_make.drop 0) [some (.inr (.inr 0)), some (.inl x1), some (.inl x2), some (.inl x3), some (.inl x4), some (.inl x5), none] [] s = bX_X_make_0 C J x1 x2 x3 x4 x5 s := rfl
def bX_X_whyNoParents_0 (C : Nat → List zV → zS → zR) (J : Nat → zL → List zV → zS → zR) (x1 : Int32) (x2 : Int32) (x3 : Int32) (x4 : Int32) (s : zS) : zR :=
  if x1 < 0 then (
    some (some (.inl (-6 : Int32)), s))
  else (
    if x1 ≤ (3 : Int32) then (
      zcV (C 5 [.inr (.inr 36), .inl x1, .inl x2, .inl x3, .inl x4] s) fun s101 =>
      J 16 [some (.inr (.inr 0)), some (.inl x1), none, none, none, some (.inl (0 : Int32))] [] s101)
    else (
      some (some (.inl (-6 : Int32)), s)))
set_option maxRecDepth 100000 in
set_option maxHeartbeats 4000000 in
theorem bX_X_whyNoParents_0_e (C : Nat → List zV → zS → zR) (J : Nat → zL → List zV → zS → zR) (x1 : Int32) (x2 : Int32) (x3 : Int32) (x4 : Int32) (s : zS) : zline skX C J zT_X_whyNoParents 1 500 (zT_X_whyNoParents.drop 0) [some (.inr (.inr 0)), some (.inl x1), some (.inl x2), some (.inl x3), some (.inl x4), none] [] s = bX_X_whyNoParents_0 C J x1 x2 x3 x4 s := rfl
def bX_X_whyNoParents_16 (C : Nat → List zV → zS → zR) (J : Nat → zL → List zV → zS → zR) (x1 : Int32) (x5 : Int32) (s : zS) : zR :=
  if x1 ≤ x5 then (
    J 34 [some (.inr (.inr 0)), some (.inl x1), none, none, none, some (.inl (0 : Int32))] [] s)
  else (
    zin x5 3 <|
    zcI (C 60 [.inr (.inr 2), .inl (zg s 37 (Int32.toNatClampNeg x5))] s) fun r102 s101 =>
    if ¬ r102 = 0 then (
      J 16 [some (.inr (.inr 0)), some (.inl x1), none, none, none, some (.inl (x5 + (1 : Int32)))] [] s101)
    else (
      some (some (.inl (-1 : Int32)), s101)))
set_option maxRecDepth 100000 in
set_option maxHeartbeats 4000000 in
theorem bX_X_whyNoParents_16_e (C : Nat → List zV → zS → zR) (J : Nat → zL → List zV → zS → zR) (x1 : Int32) (x5 : Int32) (s : zS) : zline skX C J zT_X_whyNoParents 1 500 (zT_X_whyNoParents.drop 16) [some (.inr (.inr 0)), some (.inl x1), none, none, none, some (.inl x5)] [] s = bX_X_whyNoParents_16 C J x1 x5 s := rfl
def bX_X_whyNoParents_34 (C : Nat → List zV → zS → zR) (J : Nat → zL → List zV → zS → zR) (x1 : Int32) (x5 : Int32) (s : zS) : zR :=
  if x1 ≤ x5 then (
    some (some (.inl (0 : Int32)), s))
  else (
    zcI (C 9 [.inr (.inr 36), .inl x5] s) fun r102 s101 =>
    if ¬ r102 = 0 then (
      some (some (.inl (-6 : Int32)), s101))
    else (
      zin x5 3 <|
      zin (zg s101 37 (Int32.toNatClampNeg x5)) 16 <|
      if ¬ (zg s101 3 (Int32.toNatClampNeg (zg s101 37 (Int32.toNatClampNeg x5)))) = (2 : Int32) then (
        J 34 [some (.inr (.inr 0)), some (.inl x1), none, none, none, some (.inl (x5 + (1 : Int32)))] [] s101)
      else (
        some (some (.inl (-6 : Int32)), s101))))
set_option maxRecDepth 100000 in
set_option maxHeartbeats 4000000 in
theorem bX_X_whyNoParents_34_e (C : Nat → List zV → zS → zR) (J : Nat → zL → List zV → zS → zR) (x1 : Int32) (x5 : Int32) (s : zS) : zline skX C J zT_X_whyNoParents 1 500 (zT_X_whyNoParents.drop 34) [some (.inr (.inr 0)), some (.inl x1), none, none, none, some (.inl x5)] [] s = bX_X_whyNoParents_34 C J x1 x5 s := rfl
def bX_G_standsAhead_0 (C : Nat → List zV → zS → zR) (J : Nat → zL → List zV → zS → zR) (x1 : Int32) (s : zS) : zR :=
  J 2 [some (.inr (.inr 36)), some (.inl x1), some (.inl (0 : Int32))] [] s
set_option maxRecDepth 100000 in
set_option maxHeartbeats 4000000 in
theorem bX_G_standsAhead_0_e (C : Nat → List zV → zS → zR) (J : Nat → zL → List zV → zS → zR) (x1 : Int32) (s : zS) : zline skX C J zT_G_standsAhead 3 500 (zT_G_standsAhead.drop 0) [some (.inr (.inr 36)), some (.inl x1), none] [] s = bX_G_standsAhead_0 C J x1 s := rfl
def bX_G_standsAhead_2 (C : Nat → List zV → zS → zR) (J : Nat → zL → List zV → zS → zR) (x1 : Int32) (x2 : Int32) (s : zS) : zR :=
  if x1 ≤ x2 then (
    zbo (0 : Int32) <|
    some (some (.inl (0 : Int32)), s))
  else (
    zin x2 3 <|
    zin x1 3 <|
    if ¬ (zg s 37 (Int32.toNatClampNeg x2)) = (zg s 37 (Int32.toNatClampNeg x1)) then (
      J 2 [some (.inr (.inr 36)), some (.inl x1), some (.inl (x2 + (1 : Int32)))] [] s)
    else (
      zbo (1 : Int32) <|
      some (some (.inl (1 : Int32)), s)))
set_option maxRecDepth 100000 in
set_option maxHeartbeats 4000000 in
theorem bX_G_standsAhead_2_e (C : Nat → List zV → zS → zR) (J : Nat → zL → List zV → zS → zR) (x1 : Int32) (x2 : Int32) (s : zS) : zline skX C J zT_G_standsAhead 3 500 (zT_G_standsAhead.drop 2) [some (.inr (.inr 36)), some (.inl x1), some (.inl x2)] [] s = bX_G_standsAhead_2 C J x1 x2 s := rfl
def bX_G_tellFirst_0 (C : Nat → List zV → zS → zR) (J : Nat → zL → List zV → zS → zR) (x1 : Int32) (x2 : Int32) (x3 : Int32) (x4 : Int32) (s : zS) : zR :=
  let s101 : zS := zs s 37 0 x2
  let s102 : zS := zs s101 37 1 x3
  let s103 : zS := zs s102 37 2 x4
  let s104 : zS := zs s103 36 1 x1
  some (none, s104)
set_option maxRecDepth 100000 in
set_option maxHeartbeats 4000000 in
theorem bX_G_tellFirst_0_e (C : Nat → List zV → zS → zR) (J : Nat → zL → List zV → zS → zR) (x1 : Int32) (x2 : Int32) (x3 : Int32) (x4 : Int32) (s : zS) : zline skX C J zT_G_tellFirst 0 500 (zT_G_tellFirst.drop 0) [some (.inr (.inr 36)), some (.inl x1), some (.inl x2), some (.inl x3), some (.inl x4)] [] s = bX_G_tellFirst_0 C J x1 x2 x3 x4 s := rfl
def bX_X_wouldBe_0 (C : Nat → List zV → zS → zR) (J : Nat → zL → List zV → zS → zR) (x1 : Int32) (x2 : Int32) (x3 : Int32) (x4 : Int32) (x5 : Int32) (s : zS) : zR :=
  zcI (C 119 [.inr (.inr 0), .inl x1, .inl x2, .inl x3, .inl x4] s) fun r102 s101 =>
  if r102 = 0 then (
    zcI (C 10 [.inr (.inr 36), .inr (.inr 2)] s101) fun r104 s103 =>
    if ¬ r104 = 0 then (
      if ¬ x5 = (-1 : Int32) then (
        if x5 < 0 then (
          some (some (.inl (-1 : Int32)), s103))
        else (
          if (zg s103 36 3) ≤ x5 then (
            some (some (.inl (-1 : Int32)), s103))
          else (
            zin x5 16 <|
            some (some (.inl (zg s103 38 (Int32.toNatClampNeg x5))), s103))))
      else (
        some (some (.inl (zg s103 36 3)), s103)))
    else (
      some (some (.inl (99 : Int32)), s103)))
  else (
    zcI (C 118 [.inr (.inr 0), .inl r102] s101) fun r106 s105 =>
    some (some (.inl r106), s105))
set_option maxRecDepth 100000 in
set_option maxHeartbeats 4000000 in
theorem bX_X_wouldBe_0_e (C : Nat → List zV → zS → zR) (J : Nat → zL → List zV → zS → zR) (x1 : Int32) (x2 : Int32) (x3 : Int32) (x4 : Int32) (x5 : Int32) (s : zS) : zline skX C J zT_X_wouldBe 1 500 (zT_X_wouldBe.drop 0) [some (.inr (.inr 0)), some (.inl x1), some (.inl x2), some (.inl x3), some (.inl x4), some (.inl x5), none] [] s = bX_X_wouldBe_0 C J x1 x2 x3 x4 x5 s := rfl
def bX_X_refuseByTen_0 (C : Nat → List zV → zS → zR) (J : Nat → zL → List zV → zS → zR) (x1 : Int32) (s : zS) : zR :=
  zcI (C 117 [.inr (.inr 0), .inl x1] s) fun r102 s101 =>
  some (some (.inl (r102 - (10 : Int32))), s101)
set_option maxRecDepth 100000 in
set_option maxHeartbeats 4000000 in
theorem bX_X_refuseByTen_0_e (C : Nat → List zV → zS → zR) (J : Nat → zL → List zV → zS → zR) (x1 : Int32) (s : zS) : zline skX C J zT_X_refuseByTen 1 500 (zT_X_refuseByTen.drop 0) [some (.inr (.inr 0)), some (.inl x1)] [] s = bX_X_refuseByTen_0 C J x1 s := rfl
def bX_X_value_0 (C : Nat → List zV → zS → zR) (J : Nat → zL → List zV → zS → zR) (x1 : Int32) (x2 : Int32) (x3 : Int32) (s : zS) : zR :=
  zcI (C 60 [.inr (.inr 2), .inl x1] s) fun r102 s101 =>
  if r102 = 0 then (
    zcI (C 117 [.inr (.inr 0), .inl (-1 : Int32)] s101) fun r104 s103 =>
    some (some (.inl r104), s103))
  else (
    zcI (C 122 [.inl x2] s101) fun r106 s105 =>
    if ¬ r106 = 0 then (
      zin x1 16 <|
      if ¬ (zg s105 3 (Int32.toNatClampNeg x1)) = (3 : Int32) then (
        zcI (C 68 [.inr (.inr 2), .inl x1, .inl x2] s105) fun r108 s107 =>
        if r108 = 0 then (
          zcV (C 69 [.inr (.inr 2), .inl x1, .inl x2, .inl x3] s107) fun s109 =>
          some (some (.inl (0 : Int32)), s109))
        else (
          zcV (C 69 [.inr (.inr 2), .inl x1, .inl x2, .inl x3] s107) fun s110 =>
          some (some (.inl (1 : Int32)), s110)))
      else (
        zcI (C 117 [.inr (.inr 0), .inl (-6 : Int32)] s105) fun r112 s111 =>
        some (some (.inl r112), s111)))
    else (
      zcI (C 117 [.inr (.inr 0), .inl (-1 : Int32)] s105) fun r114 s113 =>
      some (some (.inl r114), s113)))
set_option maxRecDepth 100000 in
set_option maxHeartbeats 4000000 in
theorem bX_X_value_0_e (C : Nat → List zV → zS → zR) (J : Nat → zL → List zV → zS → zR) (x1 : Int32) (x2 : Int32) (x3 : Int32) (s : zS) : zline skX C J zT_X_value 1 500 (zT_X_value.drop 0) [some (.inr (.inr 0)), some (.inl x1), some (.inl x2), some (.inl x3), none] [] s = bX_X_value_0 C J x1 x2 x3 s := rfl
def bX_X_isSlot_0 (C : Nat → List zV → zS → zR) (J : Nat → zL → List zV → zS → zR) (x0 : Int32) (s : zS) : zR :=
  if x0 < 0 then (
    zbo (0 : Int32) <|
    some (some (.inl (0 : Int32)), s))
  else (
    if (16 : Int32) ≤ x0 then (
      zbo (0 : Int32) <|
      some (some (.inl (0 : Int32)), s))
    else (
      zbo (1 : Int32) <|
      some (some (.inl (1 : Int32)), s)))
set_option maxRecDepth 100000 in
set_option maxHeartbeats 4000000 in
theorem bX_X_isSlot_0_e (C : Nat → List zV → zS → zR) (J : Nat → zL → List zV → zS → zR) (x0 : Int32) (s : zS) : zline skX C J zT_X_isSlot 3 500 (zT_X_isSlot.drop 0) [some (.inl x0)] [] s = bX_X_isSlot_0 C J x0 s := rfl
def bX_X_method_0 (C : Nat → List zV → zS → zR) (J : Nat → zL → List zV → zS → zR) (x1 : Int32) (x2 : Int32) (x3 : Int32) (x4 : Int32) (s : zS) : zR :=
  zcI (C 60 [.inr (.inr 2), .inl x1] s) fun r102 s101 =>
  if r102 = 0 then (
    zcI (C 117 [.inr (.inr 0), .inl (-1 : Int32)] s101) fun r104 s103 =>
    some (some (.inl r104), s103))
  else (
    zcI (C 122 [.inl x2] s101) fun r106 s105 =>
    if ¬ r106 = 0 then (
      zcI (C 125 [.inl x3, .inl x4] s105) fun r108 s107 =>
      if r108 = 0 then (
        zcI (C 117 [.inr (.inr 0), .inl (-6 : Int32)] s107) fun r110 s109 =>
        some (some (.inl r110), s109))
      else (
        zin x1 16 <|
        if ¬ (zg s107 3 (Int32.toNatClampNeg x1)) = (3 : Int32) then (
          zcI (C 68 [.inr (.inr 2), .inl x1, .inl x2] s107) fun r112 s111 =>
          if r112 = 0 then (
            zcV (C 70 [.inr (.inr 2), .inl x1, .inl x2, .inl x3, .inl x4] s111) fun s113 =>
            some (some (.inl (0 : Int32)), s113))
          else (
            zcV (C 70 [.inr (.inr 2), .inl x1, .inl x2, .inl x3, .inl x4] s111) fun s114 =>
            some (some (.inl (1 : Int32)), s114)))
        else (
          zcI (C 117 [.inr (.inr 0), .inl (-6 : Int32)] s107) fun r116 s115 =>
          some (some (.inl r116), s115))))
    else (
      zcI (C 117 [.inr (.inr 0), .inl (-1 : Int32)] s105) fun r118 s117 =>
      some (some (.inl r118), s117)))
set_option maxRecDepth 100000 in
set_option maxHeartbeats 4000000 in
theorem bX_X_method_0_e (C : Nat → List zV → zS → zR) (J : Nat → zL → List zV → zS → zR) (x1 : Int32) (x2 : Int32) (x3 : Int32) (x4 : Int32) (s : zS) : zline skX C J zT_X_method 1 500 (zT_X_method.drop 0) [some (.inr (.inr 0)), some (.inl x1), some (.inl x2), some (.inl x3), some (.inl x4), none] [] s = bX_X_method_0 C J x1 x2 x3 x4 s := rfl
def bX_X_isFunction_0 (C : Nat → List zV → zS → zR) (J : Nat → zL → List zV → zS → zR) (x0 : Int32) (x1 : Int32) (s : zS) : zR :=
  if x0 < 0 then (
    zbo (0 : Int32) <|
    some (some (.inl (0 : Int32)), s))
  else (
    if (10 : Int32) ≤ x0 then (
      zbo (0 : Int32) <|
      some (some (.inl (0 : Int32)), s))
    else (
      if x1 < (-99 : Int32) then (
        zbo (0 : Int32) <|
        some (some (.inl (0 : Int32)), s))
      else (
        if (99 : Int32) < x1 then (
          zbo (0 : Int32) <|
          some (some (.inl (0 : Int32)), s))
        else (
          zbo (1 : Int32) <|
          some (some (.inl (1 : Int32)), s)))))
set_option maxRecDepth 100000 in
set_option maxHeartbeats 4000000 in
theorem bX_X_isFunction_0_e (C : Nat → List zV → zS → zR) (J : Nat → zL → List zV → zS → zR) (x0 : Int32) (x1 : Int32) (s : zS) : zline skX C J zT_X_isFunction 3 500 (zT_X_isFunction.drop 0) [some (.inl x0), some (.inl x1)] [] s = bX_X_isFunction_0 C J x0 x1 s := rfl
def bX_X_remove_0 (C : Nat → List zV → zS → zR) (J : Nat → zL → List zV → zS → zR) (x1 : Int32) (x2 : Int32) (s : zS) : zR :=
  zcI (C 60 [.inr (.inr 2), .inl x1] s) fun r102 s101 =>
  if r102 = 0 then (
    zcI (C 117 [.inr (.inr 0), .inl (-1 : Int32)] s101) fun r104 s103 =>
    some (some (.inl r104), s103))
  else (
    zcI (C 122 [.inl x2] s101) fun r106 s105 =>
    if ¬ r106 = 0 then (
      zcI (C 68 [.inr (.inr 2), .inl x1, .inl x2] s105) fun r108 s107 =>
      if ¬ r108 = 0 then (
        zin x1 16 <|
        if ¬ (zg s107 3 (Int32.toNatClampNeg x1)) = (3 : Int32) then (
          zcV (C 71 [.inr (.inr 2), .inl x1, .inl x2] s107) fun s109 =>
          some (some (.inl (1 : Int32)), s109))
        else (
          zcI (C 117 [.inr (.inr 0), .inl (-6 : Int32)] s107) fun r111 s110 =>
          some (some (.inl r111), s110)))
      else (
        zcI (C 117 [.inr (.inr 0), .inl (-5 : Int32)] s107) fun r113 s112 =>
        some (some (.inl r113), s112)))
    else (
      zcI (C 117 [.inr (.inr 0), .inl (-1 : Int32)] s105) fun r115 s114 =>
      some (some (.inl r115), s114)))
set_option maxRecDepth 100000 in
set_option maxHeartbeats 4000000 in
theorem bX_X_remove_0_e (C : Nat → List zV → zS → zR) (J : Nat → zL → List zV → zS → zR) (x1 : Int32) (x2 : Int32) (s : zS) : zline skX C J zT_X_remove 1 500 (zT_X_remove.drop 0) [some (.inr (.inr 0)), some (.inl x1), some (.inl x2)] [] s = bX_X_remove_0 C J x1 x2 s := rfl
def bX_X_objectOf_0 (C : Nat → List zV → zS → zR) (J : Nat → zL → List zV → zS → zR) (x1 : Int32) (x2 : Int32) (s : zS) : zR :=
  zcI (C 60 [.inr (.inr 2), .inl x1] s) fun r102 s101 =>
  if ¬ r102 = 0 then (
    if x2 = (0 : Int32) then (
      zin x1 16 <|
      some (some (.inl (zg s101 3 (Int32.toNatClampNeg x1))), s101))
    else (
    if x2 = ((0 : Int32) + 1) then (
      zin x1 16 <|
      some (some (.inl (zg s101 4 (Int32.toNatClampNeg x1))), s101))
    else (
    if x2 = (((0 : Int32) + 1) + 1) then (
      zcI (C 63 [.inr (.inr 2), .inl x1, .inl (x2 - (2 : Int32))] s101) fun r104 s103 =>
      some (some (.inl r104), s103))
    else (
    if x2 = ((((0 : Int32) + 1) + 1) + 1) then (
      zcI (C 63 [.inr (.inr 2), .inl x1, .inl (x2 - (2 : Int32))] s101) fun r106 s105 =>
      some (some (.inl r106), s105))
    else (
    if x2 = (((((0 : Int32) + 1) + 1) + 1) + 1) then (
      zcI (C 63 [.inr (.inr 2), .inl x1, .inl (x2 - (2 : Int32))] s101) fun r108 s107 =>
      some (some (.inl r108), s107))
    else (
    if x2 = ((((((0 : Int32) + 1) + 1) + 1) + 1) + 1) then (
      zcI (C 74 [.inr (.inr 2), .inl x1] s101) fun r110 s109 =>
      some (some (.inl r110), s109))
    else (
    if x2 = (((((((0 : Int32) + 1) + 1) + 1) + 1) + 1) + 1) then (
      zcI (C 75 [.inr (.inr 2), .inl x1] s101) fun r112 s111 =>
      some (some (.inl r112), s111))
    else (
    if x2 = ((((((((0 : Int32) + 1) + 1) + 1) + 1) + 1) + 1) + 1) then (
      zin x1 16 <|
      some (some (.inl (zg s101 6 (Int32.toNatClampNeg x1))), s101))
    else (
    if x2 = (((((((((0 : Int32) + 1) + 1) + 1) + 1) + 1) + 1) + 1) + 1) then (
      zcI (C 77 [.inr (.inr 2), .inl x1] s101) fun r114 s113 =>
      some (some (.inl r114), s113))
    else (
      zcI (C 117 [.inr (.inr 0), .inl (-5 : Int32)] s101) fun r116 s115 =>
      some (some (.inl r116), s115)))))))))))
  else (
    zcI (C 117 [.inr (.inr 0), .inl (-5 : Int32)] s101) fun r118 s117 =>
    some (some (.inl r118), s117))
set_option maxRecDepth 100000 in
set_option maxHeartbeats 4000000 in
theorem bX_X_objectOf_0_e (C : Nat → List zV → zS → zR) (J : Nat → zL → List zV → zS → zR) (x1 : Int32) (x2 : Int32) (s : zS) : zline skX C J zT_X_objectOf 1 500 (zT_X_objectOf.drop 0) [some (.inr (.inr 0)), some (.inl x1), some (.inl x2)] [] s = bX_X_objectOf_0 C J x1 x2 s := rfl
def bX_W_family_0 (C : Nat → List zV → zS → zR) (J : Nat → zL → List zV → zS → zR) (x1 : Int32) (s : zS) : zR :=
  J 4 [some (.inr (.inr 2)), some (.inl x1), some (.inl (0 : Int32)), some (.inl (0 : Int32))] [] s
set_option maxRecDepth 100000 in
set_option maxHeartbeats 4000000 in
theorem bX_W_family_0_e (C : Nat → List zV → zS → zR) (J : Nat → zL → List zV → zS → zR) (x1 : Int32) (s : zS) : zline skX C J zT_W_family 1 500 (zT_W_family.drop 0) [some (.inr (.inr 2)), some (.inl x1), none, none] [] s = bX_W_family_0 C J x1 s := rfl
def bX_W_family_4 (C : Nat → List zV → zS → zR) (J : Nat → zL → List zV → zS → zR) (x1 : Int32) (x2 : Int32) (x3 : Int32) (s : zS) : zR :=
  if (zg s 2 0) ≤ x3 then (
    some (some (.inl x2), s))
  else (
    zcI (C 67 [.inr (.inr 2), .inl x3, .inl x1] s) fun r102 s101 =>
    if r102 = (-1 : Int32) then (
      J 4 [some (.inr (.inr 2)), some (.inl x1), some (.inl x2), some (.inl (x3 + (1 : Int32)))] [] s101)
    else (
      J 4 [some (.inr (.inr 2)), some (.inl x1), some (.inl (x2 ||| ((1 : Int32) <<< (x3 &&& 31)))), some (.inl (x3 + (1 : Int32)))] [] s101))
set_option maxRecDepth 100000 in
set_option maxHeartbeats 4000000 in
theorem bX_W_family_4_e (C : Nat → List zV → zS → zR) (J : Nat → zL → List zV → zS → zR) (x1 : Int32) (x2 : Int32) (x3 : Int32) (s : zS) : zline skX C J zT_W_family 1 500 (zT_W_family.drop 4) [some (.inr (.inr 2)), some (.inl x1), some (.inl x2), some (.inl x3)] [] s = bX_W_family_4 C J x1 x2 x3 s := rfl
def bX_W_distanceTo_0 (C : Nat → List zV → zS → zR) (J : Nat → zL → List zV → zS → zR) (x1 : Int32) (x2 : Int32) (s : zS) : zR :=
  J 2 [some (.inr (.inr 2)), some (.inl x1), some (.inl x2), some (.inl (0 : Int32))] [] s
set_option maxRecDepth 100000 in
set_option maxHeartbeats 4000000 in
theorem bX_W_distanceTo_0_e (C : Nat → List zV → zS → zR) (J : Nat → zL → List zV → zS → zR) (x1 : Int32) (x2 : Int32) (s : zS) : zline skX C J zT_W_distanceTo 1 500 (zT_W_distanceTo.drop 0) [some (.inr (.inr 2)), some (.inl x1), some (.inl x2), none] [] s = bX_W_distanceTo_0 C J x1 x2 s := rfl
def bX_W_distanceTo_2 (C : Nat → List zV → zS → zR) (J : Nat → zL → List zV → zS → zR) (x1 : Int32) (x2 : Int32) (x3 : Int32) (s : zS) : zR :=
  zin x1 16 <|
  if (zg s 6 (Int32.toNatClampNeg x1)) ≤ x3 then (
    some (some (.inl (-1 : Int32)), s))
  else (
    zcI (C 64 [.inr (.inr 2), .inl x1, .inl x3] s) fun r102 s101 =>
    if ¬ r102 = x2 then (
      J 2 [some (.inr (.inr 2)), some (.inl x1), some (.inl x2), some (.inl (x3 + (1 : Int32)))] [] s101)
    else (
      some (some (.inl x3), s101)))
set_option maxRecDepth 100000 in
set_option maxHeartbeats 4000000 in
theorem bX_W_distanceTo_2_e (C : Nat → List zV → zS → zR) (J : Nat → zL → List zV → zS → zR) (x1 : Int32) (x2 : Int32) (x3 : Int32) (s : zS) : zline skX C J zT_W_distanceTo 1 500 (zT_W_distanceTo.drop 2) [some (.inr (.inr 2)), some (.inl x1), some (.inl x2), some (.inl x3)] [] s = bX_W_distanceTo_2 C J x1 x2 x3 s := rfl
def bX_W_orderAt_0 (C : Nat → List zV → zS → zR) (J : Nat → zL → List zV → zS → zR) (x1 : Int32) (x2 : Int32) (s : zS) : zR :=
  zin ((x1 * (16 : Int32)) + x2) 256 <|
  some (some (.inl (zg s 7 (Int32.toNatClampNeg ((x1 * (16 : Int32)) + x2)))), s)
set_option maxRecDepth 100000 in
set_option maxHeartbeats 4000000 in
theorem bX_W_orderAt_0_e (C : Nat → List zV → zS → zR) (J : Nat → zL → List zV → zS → zR) (x1 : Int32) (x2 : Int32) (s : zS) : zline skX C J zT_W_orderAt 1 500 (zT_W_orderAt.drop 0) [some (.inr (.inr 2)), some (.inl x1), some (.inl x2)] [] s = bX_W_orderAt_0 C J x1 x2 s := rfl
def bX_W_foundSlots_0 (C : Nat → List zV → zS → zR) (J : Nat → zL → List zV → zS → zR) (x1 : Int32) (s : zS) : zR :=
  J 4 [some (.inr (.inr 2)), some (.inl x1), some (.inl (0 : Int32)), some (.inl (0 : Int32))] [] s
set_option maxRecDepth 100000 in
set_option maxHeartbeats 4000000 in
theorem bX_W_foundSlots_0_e (C : Nat → List zV → zS → zR) (J : Nat → zL → List zV → zS → zR) (x1 : Int32) (s : zS) : zline skX C J zT_W_foundSlots 1 500 (zT_W_foundSlots.drop 0) [some (.inr (.inr 2)), some (.inl x1), none, none] [] s = bX_W_foundSlots_0 C J x1 s := rfl
def bX_W_foundSlots_4 (C : Nat → List zV → zS → zR) (J : Nat → zL → List zV → zS → zR) (x1 : Int32) (x2 : Int32) (x3 : Int32) (s : zS) : zR :=
  zin x1 16 <|
  if (zg s 6 (Int32.toNatClampNeg x1)) ≤ x3 then (
    some (some (.inl x2), s))
  else (
    zcI (C 64 [.inr (.inr 2), .inl x1, .inl x3] s) fun r102 s101 =>
    zcI (C 74 [.inr (.inr 2), .inl r102] s101) fun r104 s103 =>
    J 4 [some (.inr (.inr 2)), some (.inl x1), some (.inl (x2 ||| r104)), some (.inl (x3 + (1 : Int32)))] [] s103)
set_option maxRecDepth 100000 in
set_option maxHeartbeats 4000000 in
theorem bX_W_foundSlots_4_e (C : Nat → List zV → zS → zR) (J : Nat → zL → List zV → zS → zR) (x1 : Int32) (x2 : Int32) (x3 : Int32) (s : zS) : zline skX C J zT_W_foundSlots 1 500 (zT_W_foundSlots.drop 4) [some (.inr (.inr 2)), some (.inl x1), some (.inl x2), some (.inl x3)] [] s = bX_W_foundSlots_4 C J x1 x2 x3 s := rfl
def bX_W_parentAt_0 (C : Nat → List zV → zS → zR) (J : Nat → zL → List zV → zS → zR) (x1 : Int32) (x2 : Int32) (s : zS) : zR :=
  zin x1 16 <|
  if (zg s 4 (Int32.toNatClampNeg x1)) ≤ x2 then (
    some (some (.inl (-1 : Int32)), s))
  else (
    zin ((x1 * (3 : Int32)) + x2) 48 <|
    some (some (.inl (zg s 5 (Int32.toNatClampNeg ((x1 * (3 : Int32)) + x2)))), s))
set_option maxRecDepth 100000 in
set_option maxHeartbeats 4000000 in
theorem bX_W_parentAt_0_e (C : Nat → List zV → zS → zR) (J : Nat → zL → List zV → zS → zR) (x1 : Int32) (x2 : Int32) (s : zS) : zline skX C J zT_W_parentAt 1 500 (zT_W_parentAt.drop 0) [some (.inr (.inr 2)), some (.inl x1), some (.inl x2)] [] s = bX_W_parentAt_0 C J x1 x2 s := rfl
def bX_X_order_0 (C : Nat → List zV → zS → zR) (J : Nat → zL → List zV → zS → zR) (x1 : Int32) (x2 : Int32) (s : zS) : zR :=
  zcI (C 60 [.inr (.inr 2), .inl x1] s) fun r102 s101 =>
  if ¬ r102 = 0 then (
    if x2 < 0 then (
      some (some (.inl (-1 : Int32)), s101))
    else (
      zin x1 16 <|
      if (zg s101 6 (Int32.toNatClampNeg x1)) ≤ x2 then (
        some (some (.inl (-1 : Int32)), s101))
      else (
        zcI (C 64 [.inr (.inr 2), .inl x1, .inl x2] s101) fun r104 s103 =>
        some (some (.inl r104), s103))))
  else (
    zcI (C 118 [.inr (.inr 0), .inl (-1 : Int32)] s101) fun r106 s105 =>
    some (some (.inl r106), s105))
set_option maxRecDepth 100000 in
set_option maxHeartbeats 4000000 in
theorem bX_X_order_0_e (C : Nat → List zV → zS → zR) (J : Nat → zL → List zV → zS → zR) (x1 : Int32) (x2 : Int32) (s : zS) : zline skX C J zT_X_order 1 500 (zT_X_order.drop 0) [some (.inr (.inr 0)), some (.inl x1), some (.inl x2)] [] s = bX_X_order_0 C J x1 x2 s := rfl
def bX_X_distance_0 (C : Nat → List zV → zS → zR) (J : Nat → zL → List zV → zS → zR) (x1 : Int32) (x2 : Int32) (s : zS) : zR :=
  zcI (C 60 [.inr (.inr 2), .inl x1] s) fun r102 s101 =>
  if r102 = 0 then (
    zcI (C 118 [.inr (.inr 0), .inl (-1 : Int32)] s101) fun r104 s103 =>
    some (some (.inl r104), s103))
  else (
    zcI (C 60 [.inr (.inr 2), .inl x2] s101) fun r106 s105 =>
    if ¬ r106 = 0 then (
      zcI (C 67 [.inr (.inr 2), .inl x1, .inl x2] s105) fun r108 s107 =>
      some (some (.inl r108), s107))
    else (
      zcI (C 118 [.inr (.inr 0), .inl (-1 : Int32)] s105) fun r110 s109 =>
      some (some (.inl r110), s109)))
set_option maxRecDepth 100000 in
set_option maxHeartbeats 4000000 in
theorem bX_X_distance_0_e (C : Nat → List zV → zS → zR) (J : Nat → zL → List zV → zS → zR) (x1 : Int32) (x2 : Int32) (s : zS) : zline skX C J zT_X_distance 1 500 (zT_X_distance.drop 0) [some (.inr (.inr 0)), some (.inl x1), some (.inl x2)] [] s = bX_X_distance_0 C J x1 x2 s := rfl
def bX_X_where_0 (C : Nat → List zV → zS → zR) (J : Nat → zL → List zV → zS → zR) (x1 : Int32) (x2 : Int32) (s : zS) : zR :=
  zcI (C 60 [.inr (.inr 2), .inl x1] s) fun r102 s101 =>
  if r102 = 0 then (
    zcI (C 118 [.inr (.inr 0), .inl (-1 : Int32)] s101) fun r104 s103 =>
    some (some (.inl r104), s103))
  else (
    zcI (C 122 [.inl x2] s101) fun r106 s105 =>
    if ¬ r106 = 0 then (
      zcI (C 73 [.inr (.inr 2), .inl x1, .inl x2] s105) fun r108 s107 =>
      some (some (.inl r108), s107))
    else (
      zcI (C 118 [.inr (.inr 0), .inl (-1 : Int32)] s105) fun r110 s109 =>
      some (some (.inl r110), s109)))
set_option maxRecDepth 100000 in
set_option maxHeartbeats 4000000 in
theorem bX_X_where_0_e (C : Nat → List zV → zS → zR) (J : Nat → zL → List zV → zS → zR) (x1 : Int32) (x2 : Int32) (s : zS) : zline skX C J zT_X_where 1 500 (zT_X_where.drop 0) [some (.inr (.inr 0)), some (.inl x1), some (.inl x2)] [] s = bX_X_where_0 C J x1 x2 s := rfl
def bX_W_foundIn_0 (C : Nat → List zV → zS → zR) (J : Nat → zL → List zV → zS → zR) (x1 : Int32) (x2 : Int32) (s : zS) : zR :=
  zcI (C 72 [.inr (.inr 2), .inl x1, .inl x2, .inl (0 : Int32)] s) fun r102 s101 =>
  if ¬ r102 = (-1 : Int32) then (
    zcI (C 64 [.inr (.inr 2), .inl x1, .inl r102] s101) fun r104 s103 =>
    some (some (.inl r104), s103))
  else (
    some (some (.inl (-1 : Int32)), s101))
set_option maxRecDepth 100000 in
set_option maxHeartbeats 4000000 in
theorem bX_W_foundIn_0_e (C : Nat → List zV → zS → zR) (J : Nat → zL → List zV → zS → zR) (x1 : Int32) (x2 : Int32) (s : zS) : zline skX C J zT_W_foundIn 1 500 (zT_W_foundIn.drop 0) [some (.inr (.inr 2)), some (.inl x1), some (.inl x2), none] [] s = bX_W_foundIn_0 C J x1 x2 s := rfl
def bX_W_placeFrom_0 (C : Nat → List zV → zS → zR) (J : Nat → zL → List zV → zS → zR) (x1 : Int32) (x2 : Int32) (x3 : Int32) (s : zS) : zR :=
  J 2 [some (.inr (.inr 2)), some (.inl x1), some (.inl x2), none, some (.inl x3)] [] s
set_option maxRecDepth 100000 in
set_option maxHeartbeats 4000000 in
theorem bX_W_placeFrom_0_e (C : Nat → List zV → zS → zR) (J : Nat → zL → List zV → zS → zR) (x1 : Int32) (x2 : Int32) (x3 : Int32) (s : zS) : zline skX C J zT_W_placeFrom 1 500 (zT_W_placeFrom.drop 0) [some (.inr (.inr 2)), some (.inl x1), some (.inl x2), some (.inl x3), none] [] s = bX_W_placeFrom_0 C J x1 x2 x3 s := rfl
def bX_W_placeFrom_2 (C : Nat → List zV → zS → zR) (J : Nat → zL → List zV → zS → zR) (x1 : Int32) (x2 : Int32) (x4 : Int32) (s : zS) : zR :=
  zin x1 16 <|
  if (zg s 6 (Int32.toNatClampNeg x1)) ≤ x4 then (
    some (some (.inl (-1 : Int32)), s))
  else (
    zcI (C 64 [.inr (.inr 2), .inl x1, .inl x4] s) fun r102 s101 =>
    zcI (C 68 [.inr (.inr 2), .inl r102, .inl x2] s101) fun r104 s103 =>
    if r104 = 0 then (
      J 2 [some (.inr (.inr 2)), some (.inl x1), some (.inl x2), none, some (.inl (x4 + (1 : Int32)))] [] s103)
    else (
      some (some (.inl x4), s103)))
set_option maxRecDepth 100000 in
set_option maxHeartbeats 4000000 in
theorem bX_W_placeFrom_2_e (C : Nat → List zV → zS → zR) (J : Nat → zL → List zV → zS → zR) (x1 : Int32) (x2 : Int32) (x4 : Int32) (s : zS) : zline skX C J zT_W_placeFrom 1 500 (zT_W_placeFrom.drop 2) [some (.inr (.inr 2)), some (.inl x1), some (.inl x2), none, some (.inl x4)] [] s = bX_W_placeFrom_2 C J x1 x2 x4 s := rfl
def bX_X_hidden_0 (C : Nat → List zV → zS → zR) (J : Nat → zL → List zV → zS → zR) (x1 : Int32) (x2 : Int32) (s : zS) : zR :=
  zcI (C 60 [.inr (.inr 2), .inl x1] s) fun r102 s101 =>
  if r102 = 0 then (
    zcI (C 117 [.inr (.inr 0), .inl (-1 : Int32)] s101) fun r104 s103 =>
    some (some (.inl r104), s103))
  else (
    zcI (C 60 [.inr (.inr 2), .inl x2] s101) fun r106 s105 =>
    if ¬ r106 = 0 then (
      zcI (C 67 [.inr (.inr 2), .inl x1, .inl x2] s105) fun r108 s107 =>
      if ¬ r108 = (-1 : Int32) then (
        zcI (C 76 [.inr (.inr 2), .inl x1, .inl x2] s107) fun r110 s109 =>
        some (some (.inl r110), s109))
      else (
        zcI (C 117 [.inr (.inr 0), .inl (-6 : Int32)] s107) fun r112 s111 =>
        some (some (.inl r112), s111)))
    else (
      zcI (C 117 [.inr (.inr 0), .inl (-1 : Int32)] s105) fun r114 s113 =>
      some (some (.inl r114), s113)))
set_option maxRecDepth 100000 in
set_option maxHeartbeats 4000000 in
theorem bX_X_hidden_0_e (C : Nat → List zV → zS → zR) (J : Nat → zL → List zV → zS → zR) (x1 : Int32) (x2 : Int32) (s : zS) : zline skX C J zT_X_hidden 1 500 (zT_X_hidden.drop 0) [some (.inr (.inr 0)), some (.inl x1), some (.inl x2)] [] s = bX_X_hidden_0 C J x1 x2 s := rfl
def bX_W_hiddenSlots_0 (C : Nat → List zV → zS → zR) (J : Nat → zL → List zV → zS → zR) (x1 : Int32) (x2 : Int32) (s : zS) : zR :=
  J 4 [some (.inr (.inr 2)), some (.inl x1), some (.inl x2), some (.inl (0 : Int32)), some (.inl (0 : Int32))] [] s
set_option maxRecDepth 100000 in
set_option maxHeartbeats 4000000 in
theorem bX_W_hiddenSlots_0_e (C : Nat → List zV → zS → zR) (J : Nat → zL → List zV → zS → zR) (x1 : Int32) (x2 : Int32) (s : zS) : zline skX C J zT_W_hiddenSlots 1 500 (zT_W_hiddenSlots.drop 0) [some (.inr (.inr 2)), some (.inl x1), some (.inl x2), none, none] [] s = bX_W_hiddenSlots_0 C J x1 x2 s := rfl
def bX_W_hiddenSlots_4 (C : Nat → List zV → zS → zR) (J : Nat → zL → List zV → zS → zR) (x1 : Int32) (x2 : Int32) (x3 : Int32) (x4 : Int32) (s : zS) : zR :=
  if (16 : Int32) ≤ x4 then (
    some (some (.inl x3), s))
  else (
    zcI (C 68 [.inr (.inr 2), .inl x2, .inl x4] s) fun r102 s101 =>
    if r102 = 0 then (
      J 4 [some (.inr (.inr 2)), some (.inl x1), some (.inl x2), some (.inl x3), some (.inl (x4 + (1 : Int32)))] [] s101)
    else (
      zcI (C 73 [.inr (.inr 2), .inl x1, .inl x4] s101) fun r104 s103 =>
      if r104 = x2 then (
        J 4 [some (.inr (.inr 2)), some (.inl x1), some (.inl x2), some (.inl x3), some (.inl (x4 + (1 : Int32)))] [] s103)
      else (
        J 4 [some (.inr (.inr 2)), some (.inl x1), some (.inl x2), some (.inl (x3 ||| ((1 : Int32) <<< (x4 &&& 31)))), some (.inl (x4 + (1 : Int32)))] [] s103)))
set_option maxRecDepth 100000 in
set_option maxHeartbeats 4000000 in
theorem bX_W_hiddenSlots_4_e (C : Nat → List zV → zS → zR) (J : Nat → zL → List zV → zS → zR) (x1 : Int32) (x2 : Int32) (x3 : Int32) (x4 : Int32) (s : zS) : zline skX C J zT_W_hiddenSlots 1 500 (zT_W_hiddenSlots.drop 4) [some (.inr (.inr 2)), some (.inl x1), some (.inl x2), some (.inl x3), some (.inl x4)] [] s = bX_W_hiddenSlots_4 C J x1 x2 x3 x4 s := rfl
def bX_X_slotOf_0 (C : Nat → List zV → zS → zR) (J : Nat → zL → List zV → zS → zR) (x1 : Int32) (x2 : Int32) (x3 : Int32) (s : zS) : zR :=
  zcI (C 60 [.inr (.inr 2), .inl x1] s) fun r102 s101 =>
  if r102 = 0 then (
    some (some (.inl (0 : Int32)), s101))
  else (
    zcI (C 122 [.inl x2] s101) fun r104 s103 =>
    if r104 = 0 then (
      some (some (.inl (0 : Int32)), s103))
    else (
      zcI (C 68 [.inr (.inr 2), .inl x1, .inl x2] s103) fun r106 s105 =>
      if ¬ r106 = 0 then (
        if x3 = (0 : Int32) then (
          zin ((x1 * (16 : Int32)) + x2) 256 <|
          if ¬ (zg s105 8 (Int32.toNatClampNeg ((x1 * (16 : Int32)) + x2))) = (2 : Int32) then (
            some (some (.inl (0 : Int32)), s105))
          else (
            some (some (.inl (1 : Int32)), s105)))
        else (
        if x3 = ((0 : Int32) + 1) then (
          zin ((x1 * (16 : Int32)) + x2) 256 <|
          some (some (.inl (zg s105 9 (Int32.toNatClampNeg ((x1 * (16 : Int32)) + x2)))), s105))
        else (
        if x3 = (((0 : Int32) + 1) + 1) then (
          zin ((x1 * (16 : Int32)) + x2) 256 <|
          some (some (.inl (zg s105 10 (Int32.toNatClampNeg ((x1 * (16 : Int32)) + x2)))), s105))
        else (
          some (some (.inl (0 : Int32)), s105)))))
      else (
        some (some (.inl (0 : Int32)), s105))))
set_option maxRecDepth 100000 in
set_option maxHeartbeats 4000000 in
theorem bX_X_slotOf_0_e (C : Nat → List zV → zS → zR) (J : Nat → zL → List zV → zS → zR) (x1 : Int32) (x2 : Int32) (x3 : Int32) (s : zS) : zline skX C J zT_X_slotOf 1 500 (zT_X_slotOf.drop 0) [some (.inr (.inr 0)), some (.inl x1), some (.inl x2), some (.inl x3), none] [] s = bX_X_slotOf_0 C J x1 x2 x3 s := rfl
def bX_X_send_0 (C : Nat → List zV → zS → zR) (J : Nat → zL → List zV → zS → zR) (x1 : Int32) (x2 : Int32) (x3 : Int32) (s : zS) : zR :=
  zcI (C 60 [.inr (.inr 2), .inl x1] s) fun r102 s101 =>
  if r102 = 0 then (
    zcI (C 117 [.inr (.inr 0), .inl (-1 : Int32)] s101) fun r104 s103 =>
    some (some (.inl r104), s103))
  else (
    zcI (C 122 [.inl x2] s101) fun r106 s105 =>
    if ¬ r106 = 0 then (
      zcV (C 28 [.inr (.inr 1)] s105) fun s107 =>
      zcI (C 29 [.inr (.inr 1), .inl x1, .inl x2, .inl x3] s107) fun r109 s108 =>
      let s110 : zS := zs s108 0 9 (zg s108 1 5)
      let s111 : zS := zs s110 0 10 (zg s108 1 4)
      some (some (.inl r109), s111))
    else (
      zcI (C 117 [.inr (.inr 0), .inl (-1 : Int32)] s105) fun r113 s112 =>
      some (some (.inl r113), s112)))
set_option maxRecDepth 100000 in
set_option maxHeartbeats 4000000 in
theorem bX_X_send_0_e (C : Nat → List zV → zS → zR) (J : Nat → zL → List zV → zS → zR) (x1 : Int32) (x2 : Int32) (x3 : Int32) (s : zS) : zline skX C J zT_X_send 1 500 (zT_X_send.drop 0) [some (.inr (.inr 0)), some (.inl x1), some (.inl x2), some (.inl x3), none] [] s = bX_X_send_0 C J x1 x2 x3 s := rfl
def bX_U_beginAct_0 (C : Nat → List zV → zS → zR) (J : Nat → zL → List zV → zS → zR) (s : zS) : zR :=
  let s101 : zS := zs s 1 4 (0 : Int32)
  some (none, s101)
set_option maxRecDepth 100000 in
set_option maxHeartbeats 4000000 in
theorem bX_U_beginAct_0_e (C : Nat → List zV → zS → zR) (J : Nat → zL → List zV → zS → zR) (s : zS) : zline skX C J zT_U_beginAct 0 500 (zT_U_beginAct.drop 0) [some (.inr (.inr 1))] [] s = bX_U_beginAct_0 C J s := rfl
def bX_U_sendSlot_0 (C : Nat → List zV → zS → zR) (J : Nat → zL → List zV → zS → zR) (x1 : Int32) (x2 : Int32) (x3 : Int32) (s : zS) : zR :=
  zcV (C 35 [.inr (.inr 1), .inl (4 : Int32), .inl x2, .inl (0 : Int32), .inl x3] s) fun s101 =>
  zcI (C 33 [.inr (.inr 1), .inl x1] s101) fun r103 s102 =>
  some (some (.inl r103), s102)
set_option maxRecDepth 100000 in
set_option maxHeartbeats 4000000 in
theorem bX_U_sendSlot_0_e (C : Nat → List zV → zS → zR) (J : Nat → zL → List zV → zS → zR) (x1 : Int32) (x2 : Int32) (x3 : Int32) (s : zS) : zline skX C J zT_U_sendSlot 1 500 (zT_U_sendSlot.drop 0) [some (.inr (.inr 1)), some (.inl x1), some (.inl x2), some (.inl x3)] [] s = bX_U_sendSlot_0 C J x1 x2 x3 s := rfl
def bX_U_carryOut_0 (C : Nat → List zV → zS → zR) (J : Nat → zL → List zV → zS → zR) (x1 : Int32) (s : zS) : zR :=
  let s101 : zS := zs s 1 7 x1
  let s102 : zS := zs s101 1 14 (0 : Int32)
  zcV (C 32 [.inr (.inr 1)] s102) fun s103 =>
  J 12 [some (.inr (.inr 1)), none, some (.inl (1 : Int32)), some (.inl (0 : Int32))] [] s103
set_option maxRecDepth 100000 in
set_option maxHeartbeats 4000000 in
theorem bX_U_carryOut_0_e (C : Nat → List zV → zS → zR) (J : Nat → zL → List zV → zS → zR) (x1 : Int32) (s : zS) : zline skX C J zT_U_carryOut 1 500 (zT_U_carryOut.drop 0) [some (.inr (.inr 1)), some (.inl x1), none, none] [] s = bX_U_carryOut_0 C J x1 s := rfl
def bX_U_carryOut_12 (C : Nat → List zV → zS → zR) (J : Nat → zL → List zV → zS → zR) (x2 : Int32) (x3 : Int32) (s : zS) : zR :=
  if (10000 : Int32) ≤ x3 then (
    if ¬ (zg s 1 6) = (2 : Int32) then (
      zcV (C 31 [.inr (.inr 1)] s) fun s101 =>
      let s102 : zS := zs s101 1 5 (0 : Int32)
      if ¬ (zg s101 1 6) = (3 : Int32) then (
        some (some (.inl (2 : Int32)), s102))
      else (
        some (some (.inl (1 : Int32)), s102)))
    else (
      some (some (.inl (0 : Int32)), s)))
  else (
    if x2 = 0 then (
      if ¬ (zg s 1 6) = (2 : Int32) then (
        zcV (C 31 [.inr (.inr 1)] s) fun s103 =>
        let s104 : zS := zs s103 1 5 (0 : Int32)
        if ¬ (zg s103 1 6) = (3 : Int32) then (
          some (some (.inl (2 : Int32)), s104))
        else (
          some (some (.inl (1 : Int32)), s104)))
      else (
        some (some (.inl (0 : Int32)), s)))
    else (
      zcI (C 34 [.inr (.inr 1)] s) fun r106 s105 =>
      J 12 [some (.inr (.inr 1)), none, some (.inl r106), some (.inl (x3 + (1 : Int32)))] [] s105))
set_option maxRecDepth 100000 in
set_option maxHeartbeats 4000000 in
theorem bX_U_carryOut_12_e (C : Nat → List zV → zS → zR) (J : Nat → zL → List zV → zS → zR) (x2 : Int32) (x3 : Int32) (s : zS) : zline skX C J zT_U_carryOut 1 500 (zT_U_carryOut.drop 12) [some (.inr (.inr 1)), none, some (.inl x2), some (.inl x3)] [] s = bX_U_carryOut_12 C J x2 x3 s := rfl
def bX_U_save_0 (C : Nat → List zV → zS → zR) (J : Nat → zL → List zV → zS → zR) (s : zS) : zR :=
  zcpin ((zg s 1 7) * (16 : Int32)) (0 : Int32) (16 : Int32) 256 16 <|
  let s101 : zS := zsc s 8 19 (Int32.toNatClampNeg ((zg s 1 7) * (16 : Int32))) (Int32.toNatClampNeg (0 : Int32)) (Int32.toNatClampNeg (16 : Int32))
  zcpin ((zg s 1 7) * (16 : Int32)) (0 : Int32) (16 : Int32) 256 16 <|
  let s102 : zS := zsc s101 9 20 (Int32.toNatClampNeg ((zg s 1 7) * (16 : Int32))) (Int32.toNatClampNeg (0 : Int32)) (Int32.toNatClampNeg (16 : Int32))
  zcpin ((zg s 1 7) * (16 : Int32)) (0 : Int32) (16 : Int32) 256 16 <|
  let s103 : zS := zsc s102 10 21 (Int32.toNatClampNeg ((zg s 1 7) * (16 : Int32))) (Int32.toNatClampNeg (0 : Int32)) (Int32.toNatClampNeg (16 : Int32))
  some (none, s103)
set_option maxRecDepth 100000 in
set_option maxHeartbeats 4000000 in
theorem bX_U_save_0_e (C : Nat → List zV → zS → zR) (J : Nat → zL → List zV → zS → zR) (s : zS) : zline skX C J zT_U_save 0 500 (zT_U_save.drop 0) [some (.inr (.inr 1))] [] s = bX_U_save_0 C J s := rfl
def bX_U_takeStep_0 (C : Nat → List zV → zS → zR) (J : Nat → zL → List zV → zS → zR) (s : zS) : zR :=
  if ¬ (zg s 1 6) = 0 then (
    if ¬ (zg s 1 6) = (1 : Int32) then (
      if (zg s 1 6) = (4 : Int32) then (
        zbo (0 : Int32) <|
        some (some (.inl (0 : Int32)), s))
      else (
        if ¬ (zg s 1 14) = 0 then (
          if ¬ (zg s 1 6) = (2 : Int32) then (
            zcV (C 46 [.inr (.inr 1)] s) fun s101 =>
            zbo (1 : Int32) <|
            some (some (.inl (1 : Int32)), s101))
          else (
            zcV (C 44 [.inr (.inr 1)] s) fun s102 =>
            zbo (1 : Int32) <|
            some (some (.inl (1 : Int32)), s102)))
        else (
          zbo (0 : Int32) <|
          some (some (.inl (0 : Int32)), s))))
    else (
      zcV (C 41 [.inr (.inr 1)] s) fun s103 =>
      zbo (1 : Int32) <|
      some (some (.inl (1 : Int32)), s103)))
  else (
    if ¬ (zg s 1 8) = (4 : Int32) then (
      zcV (C 38 [.inr (.inr 1)] s) fun s104 =>
      zbo (1 : Int32) <|
      some (some (.inl (1 : Int32)), s104))
    else (
      zcV (C 37 [.inr (.inr 1)] s) fun s105 =>
      zbo (1 : Int32) <|
      some (some (.inl (1 : Int32)), s105)))
set_option maxRecDepth 100000 in
set_option maxHeartbeats 4000000 in
theorem bX_U_takeStep_0_e (C : Nat → List zV → zS → zR) (J : Nat → zL → List zV → zS → zR) (s : zS) : zline skX C J zT_U_takeStep 3 500 (zT_U_takeStep.drop 0) [some (.inr (.inr 1))] [] s = bX_U_takeStep_0 C J s := rfl
def bX_U_comeToSlot_0 (C : Nat → List zV → zS → zR) (J : Nat → zL → List zV → zS → zR) (s : zS) : zR :=
  zcI (C 72 [.inr (.inr 2), .inl (zg s 1 7), .inl (zg s 1 9), .inl (zg s 1 10)] s) fun r102 s101 =>
  if ¬ r102 = (-1 : Int32) then (
    zcI (C 64 [.inr (.inr 2), .inl (zg s101 1 7), .inl r102] s101) fun r104 s103 =>
    zin ((r104 * (16 : Int32)) + (zg s103 1 9)) 256 <|
    if ¬ (zg s103 8 (Int32.toNatClampNeg ((r104 * (16 : Int32)) + (zg s103 1 9)))) = (1 : Int32) then (
      let s105 : zS := zs s103 1 10 (r102 + (1 : Int32))
      zin ((r104 * (16 : Int32)) + (zg s103 1 9)) 256 <|
      zin ((r104 * (16 : Int32)) + (zg s103 1 9)) 256 <|
      zcV (C 40 [.inr (.inr 1), .inl (zg s103 9 (Int32.toNatClampNeg ((r104 * (16 : Int32)) + (zg s103 1 9)))), .inl (zg s103 10 (Int32.toNatClampNeg ((r104 * (16 : Int32)) + (zg s103 1 9))))] s105) fun s106 =>
      some (none, s106))
    else (
      zin ((r104 * (16 : Int32)) + (zg s103 1 9)) 256 <|
      zcV (C 36 [.inr (.inr 1), .inl (zg s103 10 (Int32.toNatClampNeg ((r104 * (16 : Int32)) + (zg s103 1 9))))] s103) fun s107 =>
      some (none, s107)))
  else (
    let s108 : zS := zs s101 1 6 (3 : Int32)
    some (none, s108))
set_option maxRecDepth 100000 in
set_option maxHeartbeats 4000000 in
theorem bX_U_comeToSlot_0_e (C : Nat → List zV → zS → zR) (J : Nat → zL → List zV → zS → zR) (s : zS) : zline skX C J zT_U_comeToSlot 0 500 (zT_U_comeToSlot.drop 0) [some (.inr (.inr 1)), none, none] [] s = bX_U_comeToSlot_0 C J s := rfl
def bX_U_give_0 (C : Nat → List zV → zS → zR) (J : Nat → zL → List zV → zS → zR) (x1 : Int32) (s : zS) : zR :=
  let s101 : zS := zs s 1 5 x1
  let s102 : zS := zs s101 1 6 (2 : Int32)
  some (none, s102)
set_option maxRecDepth 100000 in
set_option maxHeartbeats 4000000 in
theorem bX_U_give_0_e (C : Nat → List zV → zS → zR) (J : Nat → zL → List zV → zS → zR) (x1 : Int32) (s : zS) : zline skX C J zT_U_give 0 500 (zT_U_give.drop 0) [some (.inr (.inr 1)), some (.inl x1)] [] s = bX_U_give_0 C J x1 s := rfl
def bX_U_startMethod_0 (C : Nat → List zV → zS → zR) (J : Nat → zL → List zV → zS → zR) (x1 : Int32) (x2 : Int32) (s : zS) : zR :=
  if (zg s 1 4) < (200 : Int32) then (
    let s101 : zS := zs s 1 4 ((zg s 1 4) + (1 : Int32))
    let s102 : zS := zs s101 1 11 x1
    let s103 : zS := zs s102 1 12 x2
    let s104 : zS := zs s103 1 6 (1 : Int32)
    some (none, s104))
  else (
    let s105 : zS := zs s 1 6 (4 : Int32)
    some (none, s105))
set_option maxRecDepth 100000 in
set_option maxHeartbeats 4000000 in
theorem bX_U_startMethod_0_e (C : Nat → List zV → zS → zR) (J : Nat → zL → List zV → zS → zR) (x1 : Int32) (x2 : Int32) (s : zS) : zline skX C J zT_U_startMethod 0 500 (zT_U_startMethod.drop 0) [some (.inr (.inr 1)), some (.inl x1), some (.inl x2)] [] s = bX_U_startMethod_0 C J x1 x2 s := rfl
def bX_U_comeToWay_0 (C : Nat → List zV → zS → zR) (J : Nat → zL → List zV → zS → zR) (s : zS) : zR :=
  if (zg s 1 8) = (5 : Int32) then (
    if ¬ (zg s 1 8) = (3 : Int32) then (
      let s101 : zS := zs s 1 6 (3 : Int32)
      some (none, s101))
    else (
      if (zg s 13 0) ≤ 0 then (
        let s102 : zS := zs s 1 6 (3 : Int32)
        some (none, s102))
      else (
        zcV (C 43 [.inr (.inr 1), .inl (3 : Int32), .inl (zg s 1 5), .inl (1 : Int32), .inl (0 : Int32)] s) fun s103 =>
        zcV (C 45 [.inr (.inr 1)] s103) fun s104 =>
        some (none, s104))))
  else (
    zin (zg s 1 8) 4 <|
    if (zg s 13 (Int32.toNatClampNeg (zg s 1 8))) ≤ (zg s 1 10) then (
      if ¬ (zg s 1 8) = (3 : Int32) then (
        let s105 : zS := zs s 1 6 (3 : Int32)
        some (none, s105))
      else (
        if (zg s 13 0) ≤ 0 then (
          let s106 : zS := zs s 1 6 (3 : Int32)
          some (none, s106))
        else (
          zcV (C 43 [.inr (.inr 1), .inl (3 : Int32), .inl (zg s 1 5), .inl (1 : Int32), .inl (0 : Int32)] s) fun s107 =>
          zcV (C 45 [.inr (.inr 1)] s107) fun s108 =>
          some (none, s108))))
    else (
      zcI (C 3 [.inr (.inr 12), .inl (zg s 1 8), .inl (zg s 1 10)] s) fun r110 s109 =>
      zcV (C 39 [.inr (.inr 1), .inl r110] s109) fun s111 =>
      some (none, s111)))
set_option maxRecDepth 100000 in
set_option maxHeartbeats 4000000 in
theorem bX_U_comeToWay_0_e (C : Nat → List zV → zS → zR) (J : Nat → zL → List zV → zS → zR) (s : zS) : zline skX C J zT_U_comeToWay 0 500 (zT_U_comeToWay.drop 0) [some (.inr (.inr 1))] [] s = bX_U_comeToWay_0 C J s := rfl
def bX_A_wayAt_0 (C : Nat → List zV → zS → zR) (J : Nat → zL → List zV → zS → zR) (x1 : Int32) (x2 : Int32) (s : zS) : zR :=
  zin ((x1 * (32 : Int32)) + x2) 128 <|
  some (some (.inl (zg s 14 (Int32.toNatClampNeg ((x1 * (32 : Int32)) + x2)))), s)
set_option maxRecDepth 100000 in
set_option maxHeartbeats 4000000 in
theorem bX_A_wayAt_0_e (C : Nat → List zV → zS → zR) (J : Nat → zL → List zV → zS → zR) (x1 : Int32) (x2 : Int32) (s : zS) : zline skX C J zT_A_wayAt 1 500 (zT_A_wayAt.drop 0) [some (.inr (.inr 12)), some (.inl x1), some (.inl x2)] [] s = bX_A_wayAt_0 C J x1 x2 s := rfl
def bX_U_goOnInCore_0 (C : Nat → List zV → zS → zR) (J : Nat → zL → List zV → zS → zR) (s : zS) : zR :=
  let x101 : Int32 := (((zg s 1 14) - (1 : Int32)) * (4 : Int32))
  zin (x101 + (3 : Int32)) 804 <|
  let x102 : Int32 := (zg s 18 (Int32.toNatClampNeg (x101 + (3 : Int32))))
  zin (x101 + (2 : Int32)) 804 <|
  if ¬ (zg s 18 (Int32.toNatClampNeg (x101 + (2 : Int32)))) = (2 : Int32) then (
    J 60 [some (.inr (.inr 1)), some (.inl x101), some (.inl x102)] [] s)
  else (
    if 0 ≤ x102 then (
      zin (x101 + (3 : Int32)) 804 <|
      let s103 : zS := zs s 18 (Int32.toNatClampNeg (x101 + (3 : Int32))) (x102 - (1 : Int32))
      zin (x101 + (1 : Int32)) 804 <|
      zcV (C 35 [.inr (.inr 1), .inl (2 : Int32), .inl (0 : Int32), .inl x102, .inl (zg s103 18 (Int32.toNatClampNeg (x101 + (1 : Int32))))] s103) fun s104 =>
      some (none, s104))
    else (
      let s105 : zS := zs s 1 14 ((zg s 1 14) - (1 : Int32))
      zin (x101 + (1 : Int32)) 804 <|
      zcV (C 36 [.inr (.inr 1), .inl (zg s 18 (Int32.toNatClampNeg (x101 + (1 : Int32))))] s105) fun s106 =>
      some (none, s106)))
set_option maxRecDepth 100000 in
set_option maxHeartbeats 4000000 in
theorem bX_U_goOnInCore_0_e (C : Nat → List zV → zS → zR) (J : Nat → zL → List zV → zS → zR) (s : zS) : zline skX C J zT_U_goOnInCore 0 500 (zT_U_goOnInCore.drop 0) [some (.inr (.inr 1)), none, none] [] s = bX_U_goOnInCore_0 C J s := rfl
def bX_U_goOnInCore_60 (C : Nat → List zV → zS → zR) (J : Nat → zL → List zV → zS → zR) (x1 : Int32) (x2 : Int32) (s : zS) : zR :=
  if (zg s 13 1) ≤ x2 then (
    J 88 [some (.inr (.inr 1)), some (.inl x1), none] [] s)
  else (
    J 67 [some (.inr (.inr 1)), some (.inl x1), some (.inl x2)] [] s)
set_option maxRecDepth 100000 in
set_option maxHeartbeats 4000000 in
theorem bX_U_goOnInCore_60_e (C : Nat → List zV → zS → zR) (J : Nat → zL → List zV → zS → zR) (x1 : Int32) (x2 : Int32) (s : zS) : zline skX C J zT_U_goOnInCore 0 500 (zT_U_goOnInCore.drop 60) [some (.inr (.inr 1)), some (.inl x1), some (.inl x2)] [] s = bX_U_goOnInCore_60 C J x1 x2 s := rfl
def bX_U_goOnInCore_67 (C : Nat → List zV → zS → zR) (J : Nat → zL → List zV → zS → zR) (x1 : Int32) (x2 : Int32) (s : zS) : zR :=
  zin (x1 + (3 : Int32)) 804 <|
  let s101 : zS := zs s 18 (Int32.toNatClampNeg (x1 + (3 : Int32))) (x2 + (1 : Int32))
  zin (x1 + (1 : Int32)) 804 <|
  zcV (C 35 [.inr (.inr 1), .inl (1 : Int32), .inl (0 : Int32), .inl x2, .inl (zg s101 18 (Int32.toNatClampNeg (x1 + (1 : Int32))))] s101) fun s102 =>
  some (none, s102)
set_option maxRecDepth 100000 in
set_option maxHeartbeats 4000000 in
theorem bX_U_goOnInCore_67_e (C : Nat → List zV → zS → zR) (J : Nat → zL → List zV → zS → zR) (x1 : Int32) (x2 : Int32) (s : zS) : zline skX C J zT_U_goOnInCore 0 500 (zT_U_goOnInCore.drop 67) [some (.inr (.inr 1)), some (.inl x1), some (.inl x2)] [] s = bX_U_goOnInCore_67 C J x1 x2 s := rfl
def bX_U_goOnInCore_88 (C : Nat → List zV → zS → zR) (J : Nat → zL → List zV → zS → zR) (x1 : Int32) (s : zS) : zR :=
  zin (x1 + (2 : Int32)) 804 <|
  let s101 : zS := zs s 18 (Int32.toNatClampNeg (x1 + (2 : Int32))) (0 : Int32)
  zin (x1 + (1 : Int32)) 804 <|
  zcV (C 35 [.inr (.inr 1), .inl (0 : Int32), .inl (0 : Int32), .inl (0 : Int32), .inl (zg s101 18 (Int32.toNatClampNeg (x1 + (1 : Int32))))] s101) fun s102 =>
  some (none, s102)
set_option maxRecDepth 100000 in
set_option maxHeartbeats 4000000 in
theorem bX_U_goOnInCore_88_e (C : Nat → List zV → zS → zR) (J : Nat → zL → List zV → zS → zR) (x1 : Int32) (s : zS) : zline skX C J zT_U_goOnInCore 0 500 (zT_U_goOnInCore.drop 88) [some (.inr (.inr 1)), some (.inl x1), none] [] s = bX_U_goOnInCore_88 C J x1 s := rfl
def bX_U_comeNextTo_0 (C : Nat → List zV → zS → zR) (J : Nat → zL → List zV → zS → zR) (x1 : Int32) (x2 : Int32) (x3 : Int32) (x4 : Int32) (s : zS) : zR :=
  let s101 : zS := zs s 1 8 x1
  let s102 : zS := zs s101 1 9 x2
  let s103 : zS := zs s102 1 10 x3
  let s104 : zS := zs s103 1 5 x4
  let s105 : zS := zs s104 1 6 (0 : Int32)
  some (none, s105)
set_option maxRecDepth 100000 in
set_option maxHeartbeats 4000000 in
theorem bX_U_comeNextTo_0_e (C : Nat → List zV → zS → zR) (J : Nat → zL → List zV → zS → zR) (x1 : Int32) (x2 : Int32) (x3 : Int32) (x4 : Int32) (s : zS) : zline skX C J zT_U_comeNextTo 0 500 (zT_U_comeNextTo.drop 0) [some (.inr (.inr 1)), some (.inl x1), some (.inl x2), some (.inl x3), some (.inl x4)] [] s = bX_U_comeNextTo_0 C J x1 x2 x3 x4 s := rfl
def bX_U_leave_0 (C : Nat → List zV → zS → zR) (J : Nat → zL → List zV → zS → zR) (x1 : Int32) (x2 : Int32) (x3 : Int32) (x4 : Int32) (s : zS) : zR :=
  if (201 : Int32) ≤ (zg s 1 14) then (
    some (none, s))
  else (
    zin ((zg s 1 14) * (4 : Int32)) 804 <|
    let s101 : zS := zs s 18 (Int32.toNatClampNeg ((zg s 1 14) * (4 : Int32))) x1
    zin (((zg s 1 14) * (4 : Int32)) + (1 : Int32)) 804 <|
    let s102 : zS := zs s101 18 (Int32.toNatClampNeg (((zg s 1 14) * (4 : Int32)) + (1 : Int32))) x2
    zin (((zg s 1 14) * (4 : Int32)) + (2 : Int32)) 804 <|
    let s103 : zS := zs s102 18 (Int32.toNatClampNeg (((zg s 1 14) * (4 : Int32)) + (2 : Int32))) x3
    zin (((zg s 1 14) * (4 : Int32)) + (3 : Int32)) 804 <|
    let s104 : zS := zs s103 18 (Int32.toNatClampNeg (((zg s 1 14) * (4 : Int32)) + (3 : Int32))) x4
    let s105 : zS := zs s104 1 14 ((zg s 1 14) + (1 : Int32))
    some (none, s105))
set_option maxRecDepth 100000 in
set_option maxHeartbeats 4000000 in
theorem bX_U_leave_0_e (C : Nat → List zV → zS → zR) (J : Nat → zL → List zV → zS → zR) (x1 : Int32) (x2 : Int32) (x3 : Int32) (x4 : Int32) (s : zS) : zline skX C J zT_U_leave 0 500 (zT_U_leave.drop 0) [some (.inr (.inr 1)), some (.inl x1), some (.inl x2), some (.inl x3), some (.inl x4), none] [] s = bX_U_leave_0 C J x1 x2 x3 x4 s := rfl
def bX_U_startWay_0 (C : Nat → List zV → zS → zR) (J : Nat → zL → List zV → zS → zR) (x1 : Int32) (s : zS) : zR :=
  if (200 : Int32) ≤ (zg s 1 4) then (
    if (zg s 1 8) = 0 then (
      let s101 : zS := zs s 1 10 ((zg s 1 10) + (1 : Int32))
      zcI (C 65 [.inr (.inr 2), .inl x1, .inl (4 : Int32)] s101) fun r103 s102 =>
      zcI (C 65 [.inr (.inr 2), .inl x1, .inl (5 : Int32)] s102) fun r105 s104 =>
      zcV (C 40 [.inr (.inr 1), .inl r103, .inl r105] s104) fun s106 =>
      some (none, s106))
    else (
      if ¬ (zg s 1 8) = (3 : Int32) then (
        let s107 : zS := zs s 1 8 (5 : Int32)
        zcI (C 65 [.inr (.inr 2), .inl x1, .inl (4 : Int32)] s107) fun r109 s108 =>
        zcI (C 65 [.inr (.inr 2), .inl x1, .inl (5 : Int32)] s108) fun r111 s110 =>
        zcV (C 40 [.inr (.inr 1), .inl r109, .inl r111] s110) fun s112 =>
        some (none, s112))
      else (
        let s113 : zS := zs s 1 10 ((zg s 1 10) + (1 : Int32))
        zcI (C 65 [.inr (.inr 2), .inl x1, .inl (4 : Int32)] s113) fun r115 s114 =>
        zcI (C 65 [.inr (.inr 2), .inl x1, .inl (5 : Int32)] s114) fun r117 s116 =>
        zcV (C 40 [.inr (.inr 1), .inl r115, .inl r117] s116) fun s118 =>
        some (none, s118))))
  else (
    if (30 : Int32) ≤ (zg s 1 3) then (
      J 14 [some (.inr (.inr 1)), some (.inl x1)] [] s)
    else (
      zin (zg s 1 3) 30 <|
      let s119 : zS := zs s 17 (Int32.toNatClampNeg (zg s 1 3)) x1
      J 14 [some (.inr (.inr 1)), some (.inl x1)] [] s119))
set_option maxRecDepth 100000 in
set_option maxHeartbeats 4000000 in
theorem bX_U_startWay_0_e (C : Nat → List zV → zS → zR) (J : Nat → zL → List zV → zS → zR) (x1 : Int32) (s : zS) : zline skX C J zT_U_startWay 0 500 (zT_U_startWay.drop 0) [some (.inr (.inr 1)), some (.inl x1)] [] s = bX_U_startWay_0 C J x1 s := rfl
def bX_U_startWay_14 (C : Nat → List zV → zS → zR) (J : Nat → zL → List zV → zS → zR) (x1 : Int32) (s : zS) : zR :=
  let s101 : zS := zs s 1 3 ((zg s 1 3) + (1 : Int32))
  if (zg s 1 8) = 0 then (
    let s102 : zS := zs s101 1 10 ((zg s 1 10) + (1 : Int32))
    zcI (C 65 [.inr (.inr 2), .inl x1, .inl (4 : Int32)] s102) fun r104 s103 =>
    zcI (C 65 [.inr (.inr 2), .inl x1, .inl (5 : Int32)] s103) fun r106 s105 =>
    zcV (C 40 [.inr (.inr 1), .inl r104, .inl r106] s105) fun s107 =>
    some (none, s107))
  else (
    if ¬ (zg s 1 8) = (3 : Int32) then (
      let s108 : zS := zs s101 1 8 (5 : Int32)
      zcI (C 65 [.inr (.inr 2), .inl x1, .inl (4 : Int32)] s108) fun r110 s109 =>
      zcI (C 65 [.inr (.inr 2), .inl x1, .inl (5 : Int32)] s109) fun r112 s111 =>
      zcV (C 40 [.inr (.inr 1), .inl r110, .inl r112] s111) fun s113 =>
      some (none, s113))
    else (
      let s114 : zS := zs s101 1 10 ((zg s 1 10) + (1 : Int32))
      zcI (C 65 [.inr (.inr 2), .inl x1, .inl (4 : Int32)] s114) fun r116 s115 =>
      zcI (C 65 [.inr (.inr 2), .inl x1, .inl (5 : Int32)] s115) fun r118 s117 =>
      zcV (C 40 [.inr (.inr 1), .inl r116, .inl r118] s117) fun s119 =>
      some (none, s119)))
set_option maxRecDepth 100000 in
set_option maxHeartbeats 4000000 in
theorem bX_U_startWay_14_e (C : Nat → List zV → zS → zR) (J : Nat → zL → List zV → zS → zR) (x1 : Int32) (s : zS) : zline skX C J zT_U_startWay 0 500 (zT_U_startWay.drop 14) [some (.inr (.inr 1)), some (.inl x1)] [] s = bX_U_startWay_14 C J x1 s := rfl
def bX_W_wayPart_0 (C : Nat → List zV → zS → zR) (J : Nat → zL → List zV → zS → zR) (x1 : Int32) (x2 : Int32) (s : zS) : zR :=
  zin ((x1 * (6 : Int32)) + x2) 192 <|
  some (some (.inl (zg s 11 (Int32.toNatClampNeg ((x1 * (6 : Int32)) + x2)))), s)
set_option maxRecDepth 100000 in
set_option maxHeartbeats 4000000 in
theorem bX_W_wayPart_0_e (C : Nat → List zV → zS → zR) (J : Nat → zL → List zV → zS → zR) (x1 : Int32) (x2 : Int32) (s : zS) : zline skX C J zT_W_wayPart 1 500 (zT_W_wayPart.drop 0) [some (.inr (.inr 2)), some (.inl x1), some (.inl x2)] [] s = bX_W_wayPart_0 C J x1 x2 s := rfl
def bX_U_failFrame_0 (C : Nat → List zV → zS → zR) (J : Nat → zL → List zV → zS → zR) (s : zS) : zR :=
  let s101 : zS := zs s 1 14 ((zg s 1 14) - (1 : Int32))
  let x102 : Int32 := (((zg s 1 14) - (1 : Int32)) * (4 : Int32))
  zin x102 804 <|
  if ¬ (zg s 18 (Int32.toNatClampNeg x102)) = (2 : Int32) then (
    some (none, s101))
  else (
    zin (x102 + (1 : Int32)) 804 <|
    zcV (C 36 [.inr (.inr 1), .inl (zg s 18 (Int32.toNatClampNeg (x102 + (1 : Int32))))] s101) fun s103 =>
    some (none, s103))
set_option maxRecDepth 100000 in
set_option maxHeartbeats 4000000 in
theorem bX_U_failFrame_0_e (C : Nat → List zV → zS → zR) (J : Nat → zL → List zV → zS → zR) (s : zS) : zline skX C J zT_U_failFrame 0 500 (zT_U_failFrame.drop 0) [some (.inr (.inr 1)), none] [] s = bX_U_failFrame_0 C J s := rfl
def bX_U_giveToFrame_0 (C : Nat → List zV → zS → zR) (J : Nat → zL → List zV → zS → zR) (s : zS) : zR :=
  let x101 : Int32 := (((zg s 1 14) - (1 : Int32)) * (4 : Int32))
  zin x101 804 <|
  if (zg s 18 (Int32.toNatClampNeg x101)) = (0 : Int32) then (
    let s102 : zS := zs s 1 14 ((zg s 1 14) - (1 : Int32))
    zin (x101 + (1 : Int32)) 804 <|
    zin (x101 + (2 : Int32)) 804 <|
    zin (x101 + (3 : Int32)) 804 <|
    zcV (C 35 [.inr (.inr 1), .inl (zg s 18 (Int32.toNatClampNeg (x101 + (1 : Int32)))), .inl (zg s 18 (Int32.toNatClampNeg (x101 + (2 : Int32)))), .inl (zg s 18 (Int32.toNatClampNeg (x101 + (3 : Int32)))), .inl (zg s 1 5)] s102) fun s103 =>
    some (none, s103))
  else (
  if (zg s 18 (Int32.toNatClampNeg x101)) = ((0 : Int32) + 1) then (
    let s104 : zS := zs s 1 14 ((zg s 1 14) - (1 : Int32))
    zin (x101 + (1 : Int32)) 804 <|
    zcV (C 36 [.inr (.inr 1), .inl ((zg s 18 (Int32.toNatClampNeg (x101 + (1 : Int32)))) + (zg s 1 5))] s104) fun s105 =>
    some (none, s105))
  else (
  if (zg s 18 (Int32.toNatClampNeg x101)) = (((0 : Int32) + 1) + 1) then (
    let s106 : zS := zs s 1 14 ((zg s 1 14) - (1 : Int32))
    some (none, s106))
  else (
    zin (x101 + (2 : Int32)) 804 <|
    if ¬ (zg s 18 (Int32.toNatClampNeg (x101 + (2 : Int32)))) = 0 then (
      zcV (C 45 [.inr (.inr 1)] s) fun s107 =>
      some (none, s107))
    else (
      zin (x101 + (1 : Int32)) 804 <|
      let s108 : zS := zs s 18 (Int32.toNatClampNeg (x101 + (1 : Int32))) (zg s 1 5)
      zin (x101 + (2 : Int32)) 804 <|
      let s109 : zS := zs s108 18 (Int32.toNatClampNeg (x101 + (2 : Int32))) (2 : Int32)
      zin (x101 + (3 : Int32)) 804 <|
      let s110 : zS := zs s109 18 (Int32.toNatClampNeg (x101 + (3 : Int32))) ((zg s 13 2) - (1 : Int32))
      zcV (C 45 [.inr (.inr 1)] s110) fun s111 =>
      some (none, s111)))))
set_option maxRecDepth 100000 in
set_option maxHeartbeats 4000000 in
theorem bX_U_giveToFrame_0_e (C : Nat → List zV → zS → zR) (J : Nat → zL → List zV → zS → zR) (s : zS) : zline skX C J zT_U_giveToFrame 0 500 (zT_U_giveToFrame.drop 0) [some (.inr (.inr 1)), none] [] s = bX_U_giveToFrame_0 C J s := rfl
def bX_U_run_0 (C : Nat → List zV → zS → zR) (J : Nat → zL → List zV → zS → zR) (s : zS) : zR :=
  if (zg s 1 11) = (0 : Int32) then (
    zcV (C 36 [.inr (.inr 1), .inl ((zg s 1 5) + (zg s 1 12))] s) fun s101 =>
    some (none, s101))
  else (
  if (zg s 1 11) = ((0 : Int32) + 1) then (
    zcV (C 36 [.inr (.inr 1), .inl ((zg s 1 5) * (zg s 1 12))] s) fun s102 =>
    some (none, s102))
  else (
  if (zg s 1 11) = (((0 : Int32) + 1) + 1) then (
    zcV (C 35 [.inr (.inr 1), .inl (zg s 1 8), .inl (zg s 1 9), .inl (zg s 1 10), .inl ((zg s 1 5) + (zg s 1 12))] s) fun s103 =>
    some (none, s103))
  else (
  if (zg s 1 11) = ((((0 : Int32) + 1) + 1) + 1) then (
    zcV (C 43 [.inr (.inr 1), .inl (0 : Int32), .inl (zg s 1 8), .inl (zg s 1 9), .inl (zg s 1 10)] s) fun s104 =>
    zcV (C 35 [.inr (.inr 1), .inl (zg s104 1 8), .inl (zg s104 1 9), .inl (zg s104 1 10), .inl (zg s104 1 5)] s104) fun s105 =>
    some (none, s105))
  else (
  if (zg s 1 11) = (((((0 : Int32) + 1) + 1) + 1) + 1) then (
    zcI (C 216 [.inl (zg s 1 12), .inl (16 : Int32)] s) fun r107 s106 =>
    zcV (C 35 [.inr (.inr 1), .inl (4 : Int32), .inl r107, .inl (0 : Int32), .inl (zg s106 1 5)] s106) fun s108 =>
    some (none, s108))
  else (
  if (zg s 1 11) = ((((((0 : Int32) + 1) + 1) + 1) + 1) + 1) then (
    zcV (C 43 [.inr (.inr 1), .inl (1 : Int32), .inl (zg s 1 5), .inl (0 : Int32), .inl (0 : Int32)] s) fun s109 =>
    zcI (C 216 [.inl (zg s109 1 12), .inl (16 : Int32)] s109) fun r111 s110 =>
    zcV (C 35 [.inr (.inr 1), .inl (4 : Int32), .inl r111, .inl (0 : Int32), .inl (0 : Int32)] s110) fun s112 =>
    some (none, s112))
  else (
  if (zg s 1 11) = (((((((0 : Int32) + 1) + 1) + 1) + 1) + 1) + 1) then (
    zcI (C 216 [.inl (zg s 1 12), .inl (16 : Int32)] s) fun r114 s113 =>
    zcV (C 42 [.inr (.inr 1), .inl r114] s113) fun s115 =>
    some (none, s115))
  else (
  if (zg s 1 11) = ((((((((0 : Int32) + 1) + 1) + 1) + 1) + 1) + 1) + 1) then (
    zcV (C 35 [.inr (.inr 1), .inl (zg s 1 8), .inl (zg s 1 9), .inl (zg s 1 10), .inl (zg s 1 5)] s) fun s116 =>
    if (zg s116 1 5) < (zg s116 1 12) then (
      some (none, s116))
    else (
      zcV (C 36 [.inr (.inr 1), .inl (zg s116 1 5)] s116) fun s117 =>
      some (none, s117)))
  else (
  if (zg s 1 11) = (((((((((0 : Int32) + 1) + 1) + 1) + 1) + 1) + 1) + 1) + 1) then (
    zcV (C 36 [.inr (.inr 1), .inl ((zg s 1 4) + (zg s 1 5))] s) fun s118 =>
    some (none, s118))
  else (
    zcV (C 43 [.inr (.inr 1), .inl (2 : Int32), .inl (zg s 1 12), .inl (0 : Int32), .inl (0 : Int32)] s) fun s119 =>
    zcV (C 35 [.inr (.inr 1), .inl (zg s119 1 8), .inl (zg s119 1 9), .inl (zg s119 1 10), .inl (zg s119 1 5)] s119) fun s120 =>
    some (none, s120))))))))))
set_option maxRecDepth 100000 in
set_option maxHeartbeats 4000000 in
theorem bX_U_run_0_e (C : Nat → List zV → zS → zR) (J : Nat → zL → List zV → zS → zR) (s : zS) : zline skX C J zT_U_run 0 500 (zT_U_run.drop 0) [some (.inr (.inr 1))] [] s = bX_U_run_0 C J s := rfl
def bX_J_floorMod_0 (C : Nat → List zV → zS → zR) (J : Nat → zL → List zV → zS → zR) (x0 : Int32) (x1 : Int32) (s : zS) : zR :=
  zne x1 <|
  if 0 ≤ (x0 ^^^ x1) then (
    some (some (.inl (x0 - x0 / x1 * x1)), s))
  else (
    if (x0 - x0 / x1 * x1) = 0 then (
      some (some (.inl (x0 - x0 / x1 * x1)), s))
    else (
      some (some (.inl ((x0 - x0 / x1 * x1) + x1)), s)))
set_option maxRecDepth 100000 in
set_option maxHeartbeats 4000000 in
theorem bX_J_floorMod_0_e (C : Nat → List zV → zS → zR) (J : Nat → zL → List zV → zS → zR) (x0 : Int32) (x1 : Int32) (s : zS) : zline skX C J zT_J_floorMod 1 500 (zT_J_floorMod.drop 0) [some (.inl x0), some (.inl x1), none] [] s = bX_J_floorMod_0 C J x0 x1 s := rfl
def bX_U_setOwn_0 (C : Nat → List zV → zS → zR) (J : Nat → zL → List zV → zS → zR) (x1 : Int32) (s : zS) : zR :=
  zcI (C 66 [.inr (.inr 2), .inl (zg s 1 7), .inl (1 : Int32)] s) fun r102 s101 =>
  if r102 = 0 then (
    zcV (C 69 [.inr (.inr 2), .inl (zg s101 1 7), .inl x1, .inl (zg s101 1 5)] s101) fun s103 =>
    zcV (C 36 [.inr (.inr 1), .inl (zg s103 1 5)] s103) fun s104 =>
    some (none, s104))
  else (
    let s105 : zS := zs s101 1 6 (3 : Int32)
    some (none, s105))
set_option maxRecDepth 100000 in
set_option maxHeartbeats 4000000 in
theorem bX_U_setOwn_0_e (C : Nat → List zV → zS → zR) (J : Nat → zL → List zV → zS → zR) (x1 : Int32) (s : zS) : zline skX C J zT_U_setOwn 0 500 (zT_U_setOwn.drop 0) [some (.inr (.inr 1)), some (.inl x1)] [] s = bX_U_setOwn_0 C J x1 s := rfl
def bX_U_undo_0 (C : Nat → List zV → zS → zR) (J : Nat → zL → List zV → zS → zR) (s : zS) : zR :=
  zcpin (0 : Int32) ((zg s 1 7) * (16 : Int32)) (16 : Int32) 16 256 <|
  let s101 : zS := zsc s 19 8 (Int32.toNatClampNeg (0 : Int32)) (Int32.toNatClampNeg ((zg s 1 7) * (16 : Int32))) (Int32.toNatClampNeg (16 : Int32))
  zcpin (0 : Int32) ((zg s 1 7) * (16 : Int32)) (16 : Int32) 16 256 <|
  let s102 : zS := zsc s101 20 9 (Int32.toNatClampNeg (0 : Int32)) (Int32.toNatClampNeg ((zg s 1 7) * (16 : Int32))) (Int32.toNatClampNeg (16 : Int32))
  zcpin (0 : Int32) ((zg s 1 7) * (16 : Int32)) (16 : Int32) 16 256 <|
  let s103 : zS := zsc s102 21 10 (Int32.toNatClampNeg (0 : Int32)) (Int32.toNatClampNeg ((zg s 1 7) * (16 : Int32))) (Int32.toNatClampNeg (16 : Int32))
  some (none, s103)
set_option maxRecDepth 100000 in
set_option maxHeartbeats 4000000 in
theorem bX_U_undo_0_e (C : Nat → List zV → zS → zR) (J : Nat → zL → List zV → zS → zR) (s : zS) : zline skX C J zT_U_undo 0 500 (zT_U_undo.drop 0) [some (.inr (.inr 1))] [] s = bX_U_undo_0 C J s := rfl
def bX_X_given_0 (C : Nat → List zV → zS → zR) (J : Nat → zL → List zV → zS → zR) (s : zS) : zR :=
  some (some (.inl (zg s 0 9)), s)
set_option maxRecDepth 100000 in
set_option maxHeartbeats 4000000 in
theorem bX_X_given_0_e (C : Nat → List zV → zS → zR) (J : Nat → zL → List zV → zS → zR) (s : zS) : zline skX C J zT_X_given 1 500 (zT_X_given.drop 0) [some (.inr (.inr 0))] [] s = bX_X_given_0 C J s := rfl
def bX_X_trial_0 (C : Nat → List zV → zS → zR) (J : Nat → zL → List zV → zS → zR) (x1 : Int32) (x2 : Int32) (x3 : Int32) (x4 : Int32) (s : zS) : zR :=
  zcI (C 60 [.inr (.inr 2), .inl x1] s) fun r102 s101 =>
  if r102 = 0 then (
    zcI (C 117 [.inr (.inr 0), .inl (-1 : Int32)] s101) fun r104 s103 =>
    some (some (.inl r104), s103))
  else (
    zcI (C 122 [.inl x2] s101) fun r106 s105 =>
    if ¬ r106 = 0 then (
      if x4 = 0 then (
        zcV (C 28 [.inr (.inr 1)] s105) fun s107 =>
        zcI (C 29 [.inr (.inr 1), .inl x1, .inl x2, .inl x3] s107) fun r109 s108 =>
        zcV (C 31 [.inr (.inr 1)] s108) fun s110 =>
        if ¬ x4 = 0 then (
          some (some (.inl (zg s110 1 4)), s110))
        else (
          some (some (.inl r109), s110)))
      else (
        if x4 = (1 : Int32) then (
          zcV (C 28 [.inr (.inr 1)] s105) fun s111 =>
          zcI (C 29 [.inr (.inr 1), .inl x1, .inl x2, .inl x3] s111) fun r113 s112 =>
          zcV (C 31 [.inr (.inr 1)] s112) fun s114 =>
          if ¬ x4 = 0 then (
            some (some (.inl (zg s114 1 4)), s114))
          else (
            some (some (.inl r113), s114)))
        else (
          zcI (C 117 [.inr (.inr 0), .inl (-5 : Int32)] s105) fun r116 s115 =>
          some (some (.inl r116), s115))))
    else (
      zcI (C 117 [.inr (.inr 0), .inl (-1 : Int32)] s105) fun r118 s117 =>
      some (some (.inl r118), s117)))
set_option maxRecDepth 100000 in
set_option maxHeartbeats 4000000 in
theorem bX_X_trial_0_e (C : Nat → List zV → zS → zR) (J : Nat → zL → List zV → zS → zR) (x1 : Int32) (x2 : Int32) (x3 : Int32) (x4 : Int32) (s : zS) : zline skX C J zT_X_trial 1 500 (zT_X_trial.drop 0) [some (.inr (.inr 0)), some (.inl x1), some (.inl x2), some (.inl x3), some (.inl x4), none] [] s = bX_X_trial_0 C J x1 x2 x3 x4 s := rfl
def bX_X_way_0 (C : Nat → List zV → zS → zR) (J : Nat → zL → List zV → zS → zR) (x1 : Int32) (x2 : Int32) (x3 : Int32) (x4 : Int32) (x5 : Int32) (x6 : Int32) (s : zS) : zR :=
  zcI (C 123 [.inl x1] s) fun r102 s101 =>
  if r102 = 0 then (
    zcI (C 117 [.inr (.inr 0), .inl (-1 : Int32)] s101) fun r104 s103 =>
    some (some (.inl r104), s103))
  else (
    zcI (C 60 [.inr (.inr 2), .inl x2] s101) fun r106 s105 =>
    if r106 = 0 then (
      zcI (C 117 [.inr (.inr 0), .inl (-1 : Int32)] s105) fun r108 s107 =>
      some (some (.inl r108), s107))
    else (
      zcI (C 60 [.inr (.inr 2), .inl x3] s105) fun r110 s109 =>
      if ¬ r110 = 0 then (
        zcI (C 124 [.inl x4] s109) fun r112 s111 =>
        if r112 = 0 then (
          zcI (C 117 [.inr (.inr 0), .inl (-6 : Int32)] s111) fun r114 s113 =>
          some (some (.inl r114), s113))
        else (
          zcI (C 125 [.inl x5, .inl x6] s111) fun r116 s115 =>
          if ¬ r116 = 0 then (
            zcI (C 221 [.inr (.inr 2)] s115) fun r118 s117 =>
            if r118 = 0 then (
              zcI (C 222 [.inr (.inr 2), .inl x1, .inl x2, .inl x3, .inl x4, .inl x5, .inl x6] s117) fun r120 s119 =>
              some (some (.inl r120), s119))
            else (
              zcI (C 117 [.inr (.inr 0), .inl (-7 : Int32)] s117) fun r122 s121 =>
              some (some (.inl r122), s121)))
          else (
            zcI (C 117 [.inr (.inr 0), .inl (-6 : Int32)] s115) fun r124 s123 =>
            some (some (.inl r124), s123))))
      else (
        zcI (C 117 [.inr (.inr 0), .inl (-1 : Int32)] s109) fun r126 s125 =>
        some (some (.inl r126), s125))))
set_option maxRecDepth 100000 in
set_option maxHeartbeats 4000000 in
theorem bX_X_way_0_e (C : Nat → List zV → zS → zR) (J : Nat → zL → List zV → zS → zR) (x1 : Int32) (x2 : Int32) (x3 : Int32) (x4 : Int32) (x5 : Int32) (x6 : Int32) (s : zS) : zline skX C J zT_X_way 1 500 (zT_X_way.drop 0) [some (.inr (.inr 0)), some (.inl x1), some (.inl x2), some (.inl x3), some (.inl x4), some (.inl x5), some (.inl x6)] [] s = bX_X_way_0 C J x1 x2 x3 x4 x5 x6 s := rfl
def bX_W_addWay_0 (C : Nat → List zV → zS → zR) (J : Nat → zL → List zV → zS → zR) (x1 : Int32) (x2 : Int32) (x3 : Int32) (x4 : Int32) (x5 : Int32) (x6 : Int32) (s : zS) : zR :=
  zin ((zg s 2 1) * (6 : Int32)) 192 <|
  let s101 : zS := zs s 11 (Int32.toNatClampNeg ((zg s 2 1) * (6 : Int32))) x1
  zin (((zg s 2 1) * (6 : Int32)) + (1 : Int32)) 192 <|
  let s102 : zS := zs s101 11 (Int32.toNatClampNeg (((zg s 2 1) * (6 : Int32)) + (1 : Int32))) x2
  zin (((zg s 2 1) * (6 : Int32)) + (2 : Int32)) 192 <|
  let s103 : zS := zs s102 11 (Int32.toNatClampNeg (((zg s 2 1) * (6 : Int32)) + (2 : Int32))) x3
  zin (((zg s 2 1) * (6 : Int32)) + (3 : Int32)) 192 <|
  let s104 : zS := zs s103 11 (Int32.toNatClampNeg (((zg s 2 1) * (6 : Int32)) + (3 : Int32))) x4
  zin (((zg s 2 1) * (6 : Int32)) + (4 : Int32)) 192 <|
  let s105 : zS := zs s104 11 (Int32.toNatClampNeg (((zg s 2 1) * (6 : Int32)) + (4 : Int32))) x5
  zin (((zg s 2 1) * (6 : Int32)) + (5 : Int32)) 192 <|
  let s106 : zS := zs s105 11 (Int32.toNatClampNeg (((zg s 2 1) * (6 : Int32)) + (5 : Int32))) x6
  let s107 : zS := zs s106 2 1 ((zg s 2 1) + (1 : Int32))
  some (some (.inl (zg s 2 1)), s107)
set_option maxRecDepth 100000 in
set_option maxHeartbeats 4000000 in
theorem bX_W_addWay_0_e (C : Nat → List zV → zS → zR) (J : Nat → zL → List zV → zS → zR) (x1 : Int32) (x2 : Int32) (x3 : Int32) (x4 : Int32) (x5 : Int32) (x6 : Int32) (s : zS) : zline skX C J zT_W_addWay 1 500 (zT_W_addWay.drop 0) [some (.inr (.inr 2)), some (.inl x1), some (.inl x2), some (.inl x3), some (.inl x4), some (.inl x5), some (.inl x6), none, none] [] s = bX_W_addWay_0 C J x1 x2 x3 x4 x5 x6 s := rfl
def bX_W_isFullOfWays_0 (C : Nat → List zV → zS → zR) (J : Nat → zL → List zV → zS → zR) (s : zS) : zR :=
  if (zg s 2 1) < (32 : Int32) then (
    zbo (0 : Int32) <|
    some (some (.inl (0 : Int32)), s))
  else (
    zbo (1 : Int32) <|
    some (some (.inl (1 : Int32)), s))
set_option maxRecDepth 100000 in
set_option maxHeartbeats 4000000 in
theorem bX_W_isFullOfWays_0_e (C : Nat → List zV → zS → zR) (J : Nat → zL → List zV → zS → zR) (s : zS) : zline skX C J zT_W_isFullOfWays 3 500 (zT_W_isFullOfWays.drop 0) [some (.inr (.inr 2))] [] s = bX_W_isFullOfWays_0 C J s := rfl
def bX_X_isGeneric_0 (C : Nat → List zV → zS → zR) (J : Nat → zL → List zV → zS → zR) (x0 : Int32) (s : zS) : zR :=
  if x0 < 0 then (
    zbo (0 : Int32) <|
    some (some (.inl (0 : Int32)), s))
  else (
    if (8 : Int32) ≤ x0 then (
      zbo (0 : Int32) <|
      some (some (.inl (0 : Int32)), s))
    else (
      zbo (1 : Int32) <|
      some (some (.inl (1 : Int32)), s)))
set_option maxRecDepth 100000 in
set_option maxHeartbeats 4000000 in
theorem bX_X_isGeneric_0_e (C : Nat → List zV → zS → zR) (J : Nat → zL → List zV → zS → zR) (x0 : Int32) (s : zS) : zline skX C J zT_X_isGeneric 3 500 (zT_X_isGeneric.drop 0) [some (.inl x0)] [] s = bX_X_isGeneric_0 C J x0 s := rfl
def bX_X_isSort_0 (C : Nat → List zV → zS → zR) (J : Nat → zL → List zV → zS → zR) (x0 : Int32) (s : zS) : zR :=
  if x0 < 0 then (
    zbo (0 : Int32) <|
    some (some (.inl (0 : Int32)), s))
  else (
    if (4 : Int32) ≤ x0 then (
      zbo (0 : Int32) <|
      some (some (.inl (0 : Int32)), s))
    else (
      zbo (1 : Int32) <|
      some (some (.inl (1 : Int32)), s)))
set_option maxRecDepth 100000 in
set_option maxHeartbeats 4000000 in
theorem bX_X_isSort_0_e (C : Nat → List zV → zS → zR) (J : Nat → zL → List zV → zS → zR) (x0 : Int32) (s : zS) : zline skX C J zT_X_isSort 3 500 (zT_X_isSort.drop 0) [some (.inl x0)] [] s = bX_X_isSort_0 C J x0 s := rfl
def bX_X_wayOf_0 (C : Nat → List zV → zS → zR) (J : Nat → zL → List zV → zS → zR) (x1 : Int32) (x2 : Int32) (s : zS) : zR :=
  if x1 < 0 then (
    zcI (C 117 [.inr (.inr 0), .inl (-5 : Int32)] s) fun r102 s101 =>
    some (some (.inl r102), s101))
  else (
    if (zg s 2 1) ≤ x1 then (
      zcI (C 117 [.inr (.inr 0), .inl (-5 : Int32)] s) fun r104 s103 =>
      some (some (.inl r104), s103))
    else (
      if x2 < 0 then (
        zcI (C 117 [.inr (.inr 0), .inl (-5 : Int32)] s) fun r106 s105 =>
        some (some (.inl r106), s105))
      else (
        if x2 < (6 : Int32) then (
          zcI (C 65 [.inr (.inr 2), .inl x1, .inl x2] s) fun r108 s107 =>
          if ¬ x2 = (5 : Int32) then (
            some (some (.inl r108), s107))
          else (
            some (some (.inl (r108 + (100 : Int32))), s107)))
        else (
          zcI (C 117 [.inr (.inr 0), .inl (-5 : Int32)] s) fun r110 s109 =>
          some (some (.inl r110), s109)))))
set_option maxRecDepth 100000 in
set_option maxHeartbeats 4000000 in
theorem bX_X_wayOf_0_e (C : Nat → List zV → zS → zR) (J : Nat → zL → List zV → zS → zR) (x1 : Int32) (x2 : Int32) (s : zS) : zline skX C J zT_X_wayOf 1 500 (zT_X_wayOf.drop 0) [some (.inr (.inr 0)), some (.inl x1), some (.inl x2), none] [] s = bX_X_wayOf_0 C J x1 x2 s := rfl
def bX_X_applies_0 (C : Nat → List zV → zS → zR) (J : Nat → zL → List zV → zS → zR) (x1 : Int32) (x2 : Int32) (x3 : Int32) (x4 : Int32) (x5 : Int32) (s : zS) : zR :=
  zcI (C 123 [.inl x1] s) fun r102 s101 =>
  if r102 = 0 then (
    zcI (C 118 [.inr (.inr 0), .inl (-1 : Int32)] s101) fun r104 s103 =>
    some (some (.inl r104), s103))
  else (
    zcI (C 60 [.inr (.inr 2), .inl x2] s101) fun r106 s105 =>
    if r106 = 0 then (
      zcI (C 118 [.inr (.inr 0), .inl (-1 : Int32)] s105) fun r108 s107 =>
      some (some (.inl r108), s107))
    else (
      zcI (C 60 [.inr (.inr 2), .inl x3] s105) fun r110 s109 =>
      if ¬ r110 = 0 then (
        zcI (C 124 [.inl x4] s109) fun r112 s111 =>
        if ¬ r112 = 0 then (
          zcV (C 0 [.inr (.inr 12), .inr (.inr 2), .inl x1, .inl x2, .inl x3] s111) fun s113 =>
          zin x4 4 <|
          if ¬ x5 = (-1 : Int32) then (
            if x5 < 0 then (
              some (some (.inl (-1 : Int32)), s113))
            else (
              if (zg s113 13 (Int32.toNatClampNeg x4)) ≤ x5 then (
                some (some (.inl (-1 : Int32)), s113))
              else (
                zcI (C 3 [.inr (.inr 12), .inl x4, .inl x5] s113) fun r115 s114 =>
                some (some (.inl r115), s114))))
          else (
            some (some (.inl (zg s113 13 (Int32.toNatClampNeg x4))), s113)))
        else (
          zcI (C 118 [.inr (.inr 0), .inl (-6 : Int32)] s111) fun r117 s116 =>
          some (some (.inl r117), s116)))
      else (
        zcI (C 118 [.inr (.inr 0), .inl (-1 : Int32)] s109) fun r119 s118 =>
        some (some (.inl r119), s118))))
set_option maxRecDepth 100000 in
set_option maxHeartbeats 4000000 in
theorem bX_X_applies_0_e (C : Nat → List zV → zS → zR) (J : Nat → zL → List zV → zS → zR) (x1 : Int32) (x2 : Int32) (x3 : Int32) (x4 : Int32) (x5 : Int32) (s : zS) : zline skX C J zT_X_applies 1 500 (zT_X_applies.drop 0) [some (.inr (.inr 0)), some (.inl x1), some (.inl x2), some (.inl x3), some (.inl x4), some (.inl x5), none] [] s = bX_X_applies_0 C J x1 x2 x3 x4 x5 s := rfl
def bX_A_find_0 (C : Nat → List zV → zS → zR) (J : Nat → zL → List zV → zS → zR) (x2 : Int32) (x3 : Int32) (x4 : Int32) (s : zS) : zR :=
  zcV (C 220 [.inr (.inr 13), .inl (0 : Int32)] s) fun s101 =>
  J 6 [some (.inr (.inr 12)), some (.inr (.inr 2)), some (.inl x2), some (.inl x3), some (.inl x4), some (.inl (0 : Int32)), none, none] [] s101
set_option maxRecDepth 100000 in
set_option maxHeartbeats 4000000 in
theorem bX_A_find_0_e (C : Nat → List zV → zS → zR) (J : Nat → zL → List zV → zS → zR) (x2 : Int32) (x3 : Int32) (x4 : Int32) (s : zS) : zline skX C J zT_A_find 0 500 (zT_A_find.drop 0) [some (.inr (.inr 12)), some (.inr (.inr 2)), some (.inl x2), some (.inl x3), some (.inl x4), none, none, none] [] s = bX_A_find_0 C J x2 x3 x4 s := rfl
def bX_A_find_6 (C : Nat → List zV → zS → zR) (J : Nat → zL → List zV → zS → zR) (x2 : Int32) (x3 : Int32) (x4 : Int32) (x5 : Int32) (s : zS) : zR :=
  if (zg s 2 1) ≤ x5 then (
    some (none, s))
  else (
    zcI (C 65 [.inr (.inr 2), .inl x5, .inl (1 : Int32)] s) fun r102 s101 =>
    zcI (C 67 [.inr (.inr 2), .inl x3, .inl r102] s101) fun r104 s103 =>
    zcI (C 65 [.inr (.inr 2), .inl x5, .inl (2 : Int32)] s103) fun r106 s105 =>
    zcI (C 67 [.inr (.inr 2), .inl x4, .inl r106] s105) fun r108 s107 =>
    zcI (C 65 [.inr (.inr 2), .inl x5, .inl (0 : Int32)] s107) fun r110 s109 =>
    if ¬ r110 = x2 then (
      J 6 [some (.inr (.inr 12)), some (.inr (.inr 2)), some (.inl x2), some (.inl x3), some (.inl x4), some (.inl (x5 + (1 : Int32))), none, none] [] s109)
    else (
      if r104 = (-1 : Int32) then (
        J 6 [some (.inr (.inr 12)), some (.inr (.inr 2)), some (.inl x2), some (.inl x3), some (.inl x4), some (.inl (x5 + (1 : Int32))), none, none] [] s109)
      else (
        if r108 = (-1 : Int32) then (
          J 6 [some (.inr (.inr 12)), some (.inr (.inr 2)), some (.inl x2), some (.inl x3), some (.inl x4), some (.inl (x5 + (1 : Int32))), none, none] [] s109)
        else (
          zin x5 32 <|
          let s111 : zS := zs s109 15 (Int32.toNatClampNeg x5) (r104 + r108)
          zin x5 32 <|
          let s112 : zS := zs s111 16 (Int32.toNatClampNeg x5) r104
          zcI (C 65 [.inr (.inr 2), .inl x5, .inl (3 : Int32)] s112) fun r114 s113 =>
          zcV (C 1 [.inr (.inr 12), .inl x5, .inl r114] s113) fun s115 =>
          J 6 [some (.inr (.inr 12)), some (.inr (.inr 2)), some (.inl x2), some (.inl x3), some (.inl x4), some (.inl (x5 + (1 : Int32))), none, none] [] s115))))
set_option maxRecDepth 100000 in
set_option maxHeartbeats 4000000 in
theorem bX_A_find_6_e (C : Nat → List zV → zS → zR) (J : Nat → zL → List zV → zS → zR) (x2 : Int32) (x3 : Int32) (x4 : Int32) (x5 : Int32) (s : zS) : zline skX C J zT_A_find 0 500 (zT_A_find.drop 6) [some (.inr (.inr 12)), some (.inr (.inr 2)), some (.inl x2), some (.inl x3), some (.inl x4), some (.inl x5), none, none] [] s = bX_A_find_6 C J x2 x3 x4 x5 s := rfl
def bX_A_insert_0 (C : Nat → List zV → zS → zR) (J : Nat → zL → List zV → zS → zR) (x1 : Int32) (x2 : Int32) (s : zS) : zR :=
  zin x2 4 <|
  J 9 [some (.inr (.inr 12)), some (.inl x1), some (.inl x2), some (.inl (x2 * (32 : Int32))), some (.inl (zg s 13 (Int32.toNatClampNeg x2)))] [] s
set_option maxRecDepth 100000 in
set_option maxHeartbeats 4000000 in
theorem bX_A_insert_0_e (C : Nat → List zV → zS → zR) (J : Nat → zL → List zV → zS → zR) (x1 : Int32) (x2 : Int32) (s : zS) : zline skX C J zT_A_insert 0 500 (zT_A_insert.drop 0) [some (.inr (.inr 12)), some (.inl x1), some (.inl x2), none, none] [] s = bX_A_insert_0 C J x1 x2 s := rfl
def bX_A_insert_9 (C : Nat → List zV → zS → zR) (J : Nat → zL → List zV → zS → zR) (x1 : Int32) (x2 : Int32) (x3 : Int32) (x4 : Int32) (s : zS) : zR :=
  if x4 ≤ 0 then (
    zin (x3 + x4) 128 <|
    let s101 : zS := zs s 14 (Int32.toNatClampNeg (x3 + x4)) x1
    zin x2 4 <|
    zin x2 4 <|
    let s102 : zS := zs s101 13 (Int32.toNatClampNeg x2) ((zg s 13 (Int32.toNatClampNeg x2)) + (1 : Int32))
    some (none, s102))
  else (
    zin ((x3 + x4) - (1 : Int32)) 128 <|
    zcI (C 2 [.inr (.inr 12), .inl (zg s 14 (Int32.toNatClampNeg ((x3 + x4) - (1 : Int32)))), .inl x1] s) fun r104 s103 =>
    if ¬ r104 = 0 then (
      zin (x3 + x4) 128 <|
      let s105 : zS := zs s103 14 (Int32.toNatClampNeg (x3 + x4)) x1
      zin x2 4 <|
      zin x2 4 <|
      let s106 : zS := zs s105 13 (Int32.toNatClampNeg x2) ((zg s103 13 (Int32.toNatClampNeg x2)) + (1 : Int32))
      some (none, s106))
    else (
      zin ((x3 + x4) - (1 : Int32)) 128 <|
      zin (x3 + x4) 128 <|
      let s107 : zS := zs s103 14 (Int32.toNatClampNeg (x3 + x4)) (zg s103 14 (Int32.toNatClampNeg ((x3 + x4) - (1 : Int32))))
      J 9 [some (.inr (.inr 12)), some (.inl x1), some (.inl x2), some (.inl x3), some (.inl (x4 + (-1 : Int32)))] [] s107))
set_option maxRecDepth 100000 in
set_option maxHeartbeats 4000000 in
theorem bX_A_insert_9_e (C : Nat → List zV → zS → zR) (J : Nat → zL → List zV → zS → zR) (x1 : Int32) (x2 : Int32) (x3 : Int32) (x4 : Int32) (s : zS) : zline skX C J zT_A_insert 0 500 (zT_A_insert.drop 9) [some (.inr (.inr 12)), some (.inl x1), some (.inl x2), some (.inl x3), some (.inl x4)] [] s = bX_A_insert_9 C J x1 x2 x3 x4 s := rfl
def bX_A_standsBefore_0 (C : Nat → List zV → zS → zR) (J : Nat → zL → List zV → zS → zR) (x1 : Int32) (x2 : Int32) (s : zS) : zR :=
  zin x1 32 <|
  zin x2 32 <|
  if (zg s 15 (Int32.toNatClampNeg x1)) = (zg s 15 (Int32.toNatClampNeg x2)) then (
    zin x1 32 <|
    zin x2 32 <|
    if (zg s 16 (Int32.toNatClampNeg x2)) ≤ (zg s 16 (Int32.toNatClampNeg x1)) then (
      zbo (0 : Int32) <|
      some (some (.inl (0 : Int32)), s))
    else (
      zbo (1 : Int32) <|
      some (some (.inl (1 : Int32)), s)))
  else (
    zin x1 32 <|
    zin x2 32 <|
    if (zg s 15 (Int32.toNatClampNeg x2)) ≤ (zg s 15 (Int32.toNatClampNeg x1)) then (
      zbo (0 : Int32) <|
      some (some (.inl (0 : Int32)), s))
    else (
      zbo (1 : Int32) <|
      some (some (.inl (1 : Int32)), s)))
set_option maxRecDepth 100000 in
set_option maxHeartbeats 4000000 in
theorem bX_A_standsBefore_0_e (C : Nat → List zV → zS → zR) (J : Nat → zL → List zV → zS → zR) (x1 : Int32) (x2 : Int32) (s : zS) : zline skX C J zT_A_standsBefore 3 500 (zT_A_standsBefore.drop 0) [some (.inr (.inr 12)), some (.inl x1), some (.inl x2)] [] s = bX_A_standsBefore_0 C J x1 x2 s := rfl
def bX_J_fill2_13_0 (C : Nat → List zV → zS → zR) (J : Nat → zL → List zV → zS → zR) (x1 : Int32) (s : zS) : zR :=
  J 5 [some (.inr (.inr 13)), some (.inl x1), some (.inl (0 : Int32)), some (.inl (Int32.ofNat 4))] [] s
set_option maxRecDepth 100000 in
set_option maxHeartbeats 4000000 in
theorem bX_J_fill2_13_0_e (C : Nat → List zV → zS → zR) (J : Nat → zL → List zV → zS → zR) (x1 : Int32) (s : zS) : zline skX C J zT_J_fill2 0 500 (zT_J_fill2.drop 0) [some (.inr (.inr 13)), some (.inl x1), none, none] [] s = bX_J_fill2_13_0 C J x1 s := rfl
def bX_J_fill2_13_5 (C : Nat → List zV → zS → zR) (J : Nat → zL → List zV → zS → zR) (x1 : Int32) (x2 : Int32) (x3 : Int32) (s : zS) : zR :=
  if x3 ≤ x2 then (
    some (none, s))
  else (
    zin x2 4 <|
    let s101 : zS := zs s 13 (Int32.toNatClampNeg x2) x1
    J 5 [some (.inr (.inr 13)), some (.inl x1), some (.inl (x2 + (1 : Int32))), some (.inl x3)] [] s101)
set_option maxRecDepth 100000 in
set_option maxHeartbeats 4000000 in
theorem bX_J_fill2_13_5_e (C : Nat → List zV → zS → zR) (J : Nat → zL → List zV → zS → zR) (x1 : Int32) (x2 : Int32) (x3 : Int32) (s : zS) : zline skX C J zT_J_fill2 0 500 (zT_J_fill2.drop 5) [some (.inr (.inr 13)), some (.inl x1), some (.inl x2), some (.inl x3)] [] s = bX_J_fill2_13_5 C J x1 x2 x3 s := rfl
def bX_X_tie_0 (C : Nat → List zV → zS → zR) (J : Nat → zL → List zV → zS → zR) (x1 : Int32) (x2 : Int32) (x3 : Int32) (s : zS) : zR :=
  zcI (C 123 [.inl x1] s) fun r102 s101 =>
  if r102 = 0 then (
    zcI (C 117 [.inr (.inr 0), .inl (-1 : Int32)] s101) fun r104 s103 =>
    some (some (.inl r104), s103))
  else (
    zcI (C 60 [.inr (.inr 2), .inl x2] s101) fun r106 s105 =>
    if r106 = 0 then (
      zcI (C 117 [.inr (.inr 0), .inl (-1 : Int32)] s105) fun r108 s107 =>
      some (some (.inl r108), s107))
    else (
      zcI (C 60 [.inr (.inr 2), .inl x3] s105) fun r110 s109 =>
      if ¬ r110 = 0 then (
        zcV (C 0 [.inr (.inr 12), .inr (.inr 2), .inl x1, .inl x2, .inl x3] s109) fun s111 =>
        zcI (C 4 [.inr (.inr 12)] s111) fun r113 s112 =>
        if r113 = 0 then (
          some (some (.inl (0 : Int32)), s112))
        else (
          some (some (.inl (1 : Int32)), s112)))
      else (
        zcI (C 117 [.inr (.inr 0), .inl (-1 : Int32)] s109) fun r115 s114 =>
        some (some (.inl r115), s114))))
set_option maxRecDepth 100000 in
set_option maxHeartbeats 4000000 in
theorem bX_X_tie_0_e (C : Nat → List zV → zS → zR) (J : Nat → zL → List zV → zS → zR) (x1 : Int32) (x2 : Int32) (x3 : Int32) (s : zS) : zline skX C J zT_X_tie 1 500 (zT_X_tie.drop 0) [some (.inr (.inr 0)), some (.inl x1), some (.inl x2), some (.inl x3)] [] s = bX_X_tie_0 C J x1 x2 x3 s := rfl
def bX_A_isTied_0 (C : Nat → List zV → zS → zR) (J : Nat → zL → List zV → zS → zR) (s : zS) : zR :=
  if (zg s 13 0) ≤ (1 : Int32) then (
    zbo (0 : Int32) <|
    some (some (.inl (0 : Int32)), s))
  else (
    zcI (C 3 [.inr (.inr 12), .inl (0 : Int32), .inl (0 : Int32)] s) fun r102 s101 =>
    zin r102 32 <|
    zcI (C 3 [.inr (.inr 12), .inl (0 : Int32), .inl (1 : Int32)] s101) fun r104 s103 =>
    zin r104 32 <|
    if ¬ (zg s101 15 (Int32.toNatClampNeg r102)) = (zg s103 15 (Int32.toNatClampNeg r104)) then (
      zbo (0 : Int32) <|
      some (some (.inl (0 : Int32)), s103))
    else (
      zbo (1 : Int32) <|
      some (some (.inl (1 : Int32)), s103)))
set_option maxRecDepth 100000 in
set_option maxHeartbeats 4000000 in
theorem bX_A_isTied_0_e (C : Nat → List zV → zS → zR) (J : Nat → zL → List zV → zS → zR) (s : zS) : zline skX C J zT_A_isTied 3 500 (zT_A_isTied.drop 0) [some (.inr (.inr 12))] [] s = bX_A_isTied_0 C J s := rfl
def bX_X_call_0 (C : Nat → List zV → zS → zR) (J : Nat → zL → List zV → zS → zR) (x1 : Int32) (x2 : Int32) (x3 : Int32) (x4 : Int32) (s : zS) : zR :=
  zcI (C 123 [.inl x1] s) fun r102 s101 =>
  if r102 = 0 then (
    zcI (C 117 [.inr (.inr 0), .inl (-1 : Int32)] s101) fun r104 s103 =>
    some (some (.inl r104), s103))
  else (
    zcI (C 60 [.inr (.inr 2), .inl x2] s101) fun r106 s105 =>
    if r106 = 0 then (
      zcI (C 117 [.inr (.inr 0), .inl (-1 : Int32)] s105) fun r108 s107 =>
      some (some (.inl r108), s107))
    else (
      zcI (C 60 [.inr (.inr 2), .inl x3] s105) fun r110 s109 =>
      if ¬ r110 = 0 then (
        zcV (C 28 [.inr (.inr 1)] s109) fun s111 =>
        zcI (C 30 [.inr (.inr 1), .inl x1, .inl x2, .inl x3, .inl x4] s111) fun r113 s112 =>
        let s114 : zS := zs s112 0 9 (zg s112 1 5)
        let s115 : zS := zs s114 0 10 (zg s112 1 4)
        some (some (.inl r113), s115))
      else (
        zcI (C 117 [.inr (.inr 0), .inl (-1 : Int32)] s109) fun r117 s116 =>
        some (some (.inl r117), s116))))
set_option maxRecDepth 100000 in
set_option maxHeartbeats 4000000 in
theorem bX_X_call_0_e (C : Nat → List zV → zS → zR) (J : Nat → zL → List zV → zS → zR) (x1 : Int32) (x2 : Int32) (x3 : Int32) (x4 : Int32) (s : zS) : zline skX C J zT_X_call 1 500 (zT_X_call.drop 0) [some (.inr (.inr 0)), some (.inl x1), some (.inl x2), some (.inl x3), some (.inl x4), none] [] s = bX_X_call_0 C J x1 x2 x3 x4 s := rfl
def bX_U_callGeneric_0 (C : Nat → List zV → zS → zR) (J : Nat → zL → List zV → zS → zR) (x1 : Int32) (x2 : Int32) (x3 : Int32) (x4 : Int32) (s : zS) : zR :=
  zcV (C 0 [.inr (.inr 12), .inr (.inr 2), .inl x1, .inl x2, .inl x3] s) fun s101 =>
  let s102 : zS := zs s101 1 3 (0 : Int32)
  zcV (C 35 [.inr (.inr 1), .inl (3 : Int32), .inl (0 : Int32), .inl (0 : Int32), .inl x4] s102) fun s103 =>
  zcI (C 33 [.inr (.inr 1), .inl x2] s103) fun r105 s104 =>
  some (some (.inl r105), s104)
set_option maxRecDepth 100000 in
set_option maxHeartbeats 4000000 in
theorem bX_U_callGeneric_0_e (C : Nat → List zV → zS → zR) (J : Nat → zL → List zV → zS → zR) (x1 : Int32) (x2 : Int32) (x3 : Int32) (x4 : Int32) (s : zS) : zline skX C J zT_U_callGeneric 1 500 (zT_U_callGeneric.drop 0) [some (.inr (.inr 1)), some (.inl x1), some (.inl x2), some (.inl x3), some (.inl x4)] [] s = bX_U_callGeneric_0 C J x1 x2 x3 x4 s := rfl
def bX_X_trace_0 (C : Nat → List zV → zS → zR) (J : Nat → zL → List zV → zS → zR) (x1 : Int32) (s : zS) : zR :=
  if x1 < 0 then (
    some (some (.inl (-1 : Int32)), s))
  else (
    if (zg s 1 3) ≤ x1 then (
      some (some (.inl (-1 : Int32)), s))
    else (
      if (30 : Int32) ≤ x1 then (
        some (some (.inl (-1 : Int32)), s))
      else (
        zin x1 30 <|
        some (some (.inl (zg s 17 (Int32.toNatClampNeg x1))), s))))
set_option maxRecDepth 100000 in
set_option maxHeartbeats 4000000 in
theorem bX_X_trace_0_e (C : Nat → List zV → zS → zR) (J : Nat → zL → List zV → zS → zR) (x1 : Int32) (s : zS) : zline skX C J zT_X_trace 1 500 (zT_X_trace.drop 0) [some (.inr (.inr 0)), some (.inl x1)] [] s = bX_X_trace_0 C J x1 s := rfl
def bX_X_judge_0 (C : Nat → List zV → zS → zR) (J : Nat → zL → List zV → zS → zR) (x1 : Int32) (x2 : Int32) (x3 : Int32) (x4 : Int32) (s : zS) : zR :=
  zcI (C 47 [.inr (.inr 32), .inl x1] s) fun r102 s101 =>
  if r102 = 0 then (
    zcI (C 118 [.inr (.inr 0), .inl (-1 : Int32)] s101) fun r104 s103 =>
    some (some (.inl r104), s103))
  else (
    zcI (C 60 [.inr (.inr 2), .inl x2] s101) fun r106 s105 =>
    if r106 = 0 then (
      zcI (C 118 [.inr (.inr 0), .inl (-1 : Int32)] s105) fun r108 s107 =>
      some (some (.inl r108), s107))
    else (
      zcI (C 122 [.inl x3] s105) fun r110 s109 =>
      if ¬ r110 = 0 then (
        zcI (C 51 [.inr (.inr 32), .inl x1] s109) fun r112 s111 =>
        if r112 = 0 then (
          if 0 ≤ x4 then (
            zin x1 8 <|
            if (lg_cmp ((2 : Int64) * (Int32.toInt64 x4)) (Int32.toInt64 (zg s111 34 (Int32.toNatClampNeg x1)))) ≤ 0 then (
              zcV (C 28 [.inr (.inr 1)] s111) fun s113 =>
              J 55 [some (.inr (.inr 0)), some (.inl x1), some (.inl x2), some (.inl x3), some (.inl x4), none, some (.inl (0 : Int32)), none] [] s113)
            else (
              zcI (C 118 [.inr (.inr 0), .inl (-5 : Int32)] s111) fun r115 s114 =>
              some (some (.inl r115), s114)))
          else (
            zcI (C 118 [.inr (.inr 0), .inl (-4 : Int32)] s111) fun r117 s116 =>
            some (some (.inl r117), s116)))
        else (
          zcI (C 118 [.inr (.inr 0), .inl r112] s111) fun r119 s118 =>
          some (some (.inl r119), s118)))
      else (
        zcI (C 118 [.inr (.inr 0), .inl (-1 : Int32)] s109) fun r121 s120 =>
        some (some (.inl r121), s120))))
set_option maxRecDepth 100000 in
set_option maxHeartbeats 4000000 in
theorem bX_X_judge_0_e (C : Nat → List zV → zS → zR) (J : Nat → zL → List zV → zS → zR) (x1 : Int32) (x2 : Int32) (x3 : Int32) (x4 : Int32) (s : zS) : zline skX C J zT_X_judge 1 500 (zT_X_judge.drop 0) [some (.inr (.inr 0)), some (.inl x1), some (.inl x2), some (.inl x3), some (.inl x4), none, none, none] [] s = bX_X_judge_0 C J x1 x2 x3 x4 s := rfl
def bX_X_judge_55 (C : Nat → List zV → zS → zR) (J : Nat → zL → List zV → zS → zR) (x1 : Int32) (x2 : Int32) (x3 : Int32) (x4 : Int32) (x6 : Int32) (s : zS) : zR :=
  if x4 ≤ x6 then (
    some (some (.inl (-1 : Int32)), s))
  else (
    zcI (C 58 [.inr (.inr 32), .inl x1, .inl ((2 : Int32) * x6)] s) fun r102 s101 =>
    zcI (C 29 [.inr (.inr 1), .inl x2, .inl x3, .inl r102] s101) fun r104 s103 =>
    zcV (C 31 [.inr (.inr 1)] s103) fun s105 =>
    if ¬ r104 = 0 then (
      some (some (.inl x6), s105))
    else (
      zcI (C 58 [.inr (.inr 32), .inl x1, .inl (((2 : Int32) * x6) + (1 : Int32))] s105) fun r107 s106 =>
      if (zg s105 1 5) = r107 then (
        J 55 [some (.inr (.inr 0)), some (.inl x1), some (.inl x2), some (.inl x3), some (.inl x4), none, some (.inl (x6 + (1 : Int32))), none] [] s106)
      else (
        some (some (.inl x6), s106))))
set_option maxRecDepth 100000 in
set_option maxHeartbeats 4000000 in
theorem bX_X_judge_55_e (C : Nat → List zV → zS → zR) (J : Nat → zL → List zV → zS → zR) (x1 : Int32) (x2 : Int32) (x3 : Int32) (x4 : Int32) (x6 : Int32) (s : zS) : zline skX C J zT_X_judge 1 500 (zT_X_judge.drop 55) [some (.inr (.inr 0)), some (.inl x1), some (.inl x2), some (.inl x3), some (.inl x4), none, some (.inl x6), none] [] s = bX_X_judge_55 C J x1 x2 x3 x4 x6 s := rfl
def bX_X_days_0 (C : Nat → List zV → zS → zR) (J : Nat → zL → List zV → zS → zR) (x1 : Int32) (s : zS) : zR :=
  if ¬ (zg s 2 0) = 0 then (
    if x1 < (1 : Int32) then (
      zcI (C 117 [.inr (.inr 0), .inl (-6 : Int32)] s) fun r102 s101 =>
      some (some (.inl r102), s101))
    else (
      if x1 ≤ (40 : Int32) then (
        zcV (C 28 [.inr (.inr 1)] s) fun s103 =>
        J 23 [some (.inr (.inr 0)), some (.inl x1), some (.inl (0 : Int32))] [] s103)
      else (
        zcI (C 117 [.inr (.inr 0), .inl (-6 : Int32)] s) fun r105 s104 =>
        some (some (.inl r105), s104))))
  else (
    zcI (C 117 [.inr (.inr 0), .inl (-5 : Int32)] s) fun r107 s106 =>
    some (some (.inl r107), s106))
set_option maxRecDepth 100000 in
set_option maxHeartbeats 4000000 in
theorem bX_X_days_0_e (C : Nat → List zV → zS → zR) (J : Nat → zL → List zV → zS → zR) (x1 : Int32) (s : zS) : zline skX C J zT_X_days 1 500 (zT_X_days.drop 0) [some (.inr (.inr 0)), some (.inl x1), none] [] s = bX_X_days_0 C J x1 s := rfl
def bX_X_days_23 (C : Nat → List zV → zS → zR) (J : Nat → zL → List zV → zS → zR) (x1 : Int32) (x2 : Int32) (s : zS) : zR :=
  if x1 ≤ x2 then (
    zcI (C 78 [.inr (.inr 2)] s) fun r102 s101 =>
    some (some (.inl r102), s101))
  else (
    zcV (C 120 [.inr (.inr 0)] s) fun s103 =>
    J 23 [some (.inr (.inr 0)), some (.inl x1), some (.inl (x2 + (1 : Int32)))] [] s103)
set_option maxRecDepth 100000 in
set_option maxHeartbeats 4000000 in
theorem bX_X_days_23_e (C : Nat → List zV → zS → zR) (J : Nat → zL → List zV → zS → zR) (x1 : Int32) (x2 : Int32) (s : zS) : zline skX C J zT_X_days 1 500 (zT_X_days.drop 23) [some (.inr (.inr 0)), some (.inl x1), some (.inl x2)] [] s = bX_X_days_23 C J x1 x2 s := rfl
def bX_W_slotsOfAll_0 (C : Nat → List zV → zS → zR) (J : Nat → zL → List zV → zS → zR) (s : zS) : zR :=
  J 4 [some (.inr (.inr 2)), some (.inl (0 : Int32)), some (.inl (0 : Int32))] [] s
set_option maxRecDepth 100000 in
set_option maxHeartbeats 4000000 in
theorem bX_W_slotsOfAll_0_e (C : Nat → List zV → zS → zR) (J : Nat → zL → List zV → zS → zR) (s : zS) : zline skX C J zT_W_slotsOfAll 1 500 (zT_W_slotsOfAll.drop 0) [some (.inr (.inr 2)), none, none] [] s = bX_W_slotsOfAll_0 C J s := rfl
def bX_W_slotsOfAll_4 (C : Nat → List zV → zS → zR) (J : Nat → zL → List zV → zS → zR) (x1 : Int32) (x2 : Int32) (s : zS) : zR :=
  if (zg s 2 0) ≤ x2 then (
    some (some (.inl x1), s))
  else (
    zcI (C 74 [.inr (.inr 2), .inl x2] s) fun r102 s101 =>
    zcI (C 215 [.inl r102] s101) fun r104 s103 =>
    J 4 [some (.inr (.inr 2)), some (.inl (x1 + r104)), some (.inl (x2 + (1 : Int32)))] [] s103)
set_option maxRecDepth 100000 in
set_option maxHeartbeats 4000000 in
theorem bX_W_slotsOfAll_4_e (C : Nat → List zV → zS → zR) (J : Nat → zL → List zV → zS → zR) (x1 : Int32) (x2 : Int32) (s : zS) : zline skX C J zT_W_slotsOfAll 1 500 (zT_W_slotsOfAll.drop 4) [some (.inr (.inr 2)), some (.inl x1), some (.inl x2)] [] s = bX_W_slotsOfAll_4 C J x1 x2 s := rfl
def bX_X_liveDay_0 (C : Nat → List zV → zS → zR) (J : Nat → zL → List zV → zS → zR) (s : zS) : zR :=
  zcI (C 80 [.inr (.inr 2), .inl (zg s 2 0)] s) fun r102 s101 =>
  zcI (C 80 [.inr (.inr 2), .inl (16 : Int32)] s101) fun r104 s103 =>
  zcI (C 80 [.inr (.inr 2), .inl (3 : Int32)] s103) fun r106 s105 =>
  zin r102 16 <|
  if ¬ (zg s105 3 (Int32.toNatClampNeg r102)) = (3 : Int32) then (
    if ¬ r106 = (1 : Int32) then (
      if ¬ r106 = 0 then (
        if ¬ r106 = (2 : Int32) then (
          some (none, s105))
        else (
          if ¬ (0 : Int32) = 0 then (
            some (none, s105))
          else (
            zcV (C 71 [.inr (.inr 2), .inl r102, .inl r104] s105) fun s107 =>
            some (none, s107))))
      else (
        if ¬ (0 : Int32) = 0 then (
          if ¬ r106 = (2 : Int32) then (
            some (none, s105))
          else (
            if ¬ (0 : Int32) = 0 then (
              some (none, s105))
            else (
              zcV (C 71 [.inr (.inr 2), .inl r102, .inl r104] s105) fun s108 =>
              some (none, s108))))
        else (
          zcI (C 80 [.inr (.inr 2), .inl (100 : Int32)] s105) fun r110 s109 =>
          zcV (C 69 [.inr (.inr 2), .inl r102, .inl r104, .inl r110] s109) fun s111 =>
          some (none, s111))))
    else (
      zcI (C 80 [.inr (.inr 2), .inl (100 : Int32)] s105) fun r113 s112 =>
      zcI (C 29 [.inr (.inr 1), .inl r102, .inl r104, .inl r113] s112) fun r115 s114 =>
      some (none, s114)))
  else (
    if ¬ r106 = (1 : Int32) then (
      if ¬ r106 = 0 then (
        if ¬ r106 = (2 : Int32) then (
          some (none, s105))
        else (
          if ¬ (1 : Int32) = 0 then (
            some (none, s105))
          else (
            zcV (C 71 [.inr (.inr 2), .inl r102, .inl r104] s105) fun s116 =>
            some (none, s116))))
      else (
        if ¬ (1 : Int32) = 0 then (
          if ¬ r106 = (2 : Int32) then (
            some (none, s105))
          else (
            if ¬ (1 : Int32) = 0 then (
              some (none, s105))
            else (
              zcV (C 71 [.inr (.inr 2), .inl r102, .inl r104] s105) fun s117 =>
              some (none, s117))))
        else (
          zcI (C 80 [.inr (.inr 2), .inl (100 : Int32)] s105) fun r119 s118 =>
          zcV (C 69 [.inr (.inr 2), .inl r102, .inl r104, .inl r119] s118) fun s120 =>
          some (none, s120))))
    else (
      zcI (C 80 [.inr (.inr 2), .inl (100 : Int32)] s105) fun r122 s121 =>
      zcI (C 29 [.inr (.inr 1), .inl r102, .inl r104, .inl r122] s121) fun r124 s123 =>
      some (none, s123)))
set_option maxRecDepth 100000 in
set_option maxHeartbeats 4000000 in
theorem bX_X_liveDay_0_e (C : Nat → List zV → zS → zR) (J : Nat → zL → List zV → zS → zR) (s : zS) : zline skX C J zT_X_liveDay 0 500 (zT_X_liveDay.drop 0) [some (.inr (.inr 0)), none, none, none, none] [] s = bX_X_liveDay_0 C J s := rfl
def bX_W_draw_0 (C : Nat → List zV → zS → zR) (J : Nat → zL → List zV → zS → zR) (x1 : Int32) (s : zS) : zR :=
  let s101 : zS := zs s 2 2 (((zg s 2 2) * (1103515245 : Int32)) + (12345 : Int32))
  if x1 ≤ 0 then (
    some (some (.inl (0 : Int32)), s101))
  else (
    zne x1 <|
    some (some (.inl ((UInt32.toInt32 (Int32.toUInt32 (((zg s 2 2) * (1103515245 : Int32)) + (12345 : Int32)) >>> (Int32.toUInt32 (16 : Int32) &&& Int32.toUInt32 31))) - (UInt32.toInt32 (Int32.toUInt32 (((zg s 2 2) * (1103515245 : Int32)) + (12345 : Int32)) >>> (Int32.toUInt32 (16 : Int32) &&& Int32.toUInt32 31))) / x1 * x1)), s101))
set_option maxRecDepth 100000 in
set_option maxHeartbeats 4000000 in
theorem bX_W_draw_0_e (C : Nat → List zV → zS → zR) (J : Nat → zL → List zV → zS → zR) (x1 : Int32) (s : zS) : zline skX C J zT_W_draw 1 500 (zT_W_draw.drop 0) [some (.inr (.inr 2)), some (.inl x1)] [] s = bX_W_draw_0 C J x1 s := rfl
def bX_X_seed_0 (C : Nat → List zV → zS → zR) (J : Nat → zL → List zV → zS → zR) (x1 : Int32) (s : zS) : zR :=
  let s101 : zS := zs s 2 2 x1
  some (some (.inl (zg s 2 2)), s101)
set_option maxRecDepth 100000 in
set_option maxHeartbeats 4000000 in
theorem bX_X_seed_0_e (C : Nat → List zV → zS → zR) (J : Nat → zL → List zV → zS → zR) (x1 : Int32) (s : zS) : zline skX C J zT_X_seed 1 500 (zT_X_seed.drop 0) [some (.inr (.inr 0)), some (.inl x1), none] [] s = bX_X_seed_0 C J x1 s := rfl
def bX_X_image_0 (C : Nat → List zV → zS → zR) (J : Nat → zL → List zV → zS → zR) (s : zS) : zR :=
  zcV (C 81 [.inr (.inr 22), .inr (.inr 2)] s) fun s101 =>
  zbo (1 : Int32) <|
  let s102 : zS := zs s101 0 7 (1 : Int32)
  some (some (.inl (zg s101 22 0)), s102)
set_option maxRecDepth 100000 in
set_option maxHeartbeats 4000000 in
theorem bX_X_image_0_e (C : Nat → List zV → zS → zR) (J : Nat → zL → List zV → zS → zR) (s : zS) : zline skX C J zT_X_image 1 500 (zT_X_image.drop 0) [some (.inr (.inr 0))] [] s = bX_X_image_0 C J s := rfl
def bX_W_takeFrom_0 (C : Nat → List zV → zS → zR) (J : Nat → zL → List zV → zS → zR) (s : zS) : zR :=
  let s101 : zS := zs s 22 0 (zg s 2 0)
  let s102 : zS := zs s101 22 1 (zg s 2 1)
  let s103 : zS := zs s102 22 2 (zg s 2 2)
  zcpin (0 : Int32) (0 : Int32) (16 : Int32) 16 16 <|
  let s104 : zS := zsc s103 3 23 (Int32.toNatClampNeg (0 : Int32)) (Int32.toNatClampNeg (0 : Int32)) (Int32.toNatClampNeg (16 : Int32))
  zcpin (0 : Int32) (0 : Int32) (16 : Int32) 16 16 <|
  let s105 : zS := zsc s104 4 24 (Int32.toNatClampNeg (0 : Int32)) (Int32.toNatClampNeg (0 : Int32)) (Int32.toNatClampNeg (16 : Int32))
  zcpin (0 : Int32) (0 : Int32) (48 : Int32) 48 48 <|
  let s106 : zS := zsc s105 5 25 (Int32.toNatClampNeg (0 : Int32)) (Int32.toNatClampNeg (0 : Int32)) (Int32.toNatClampNeg (48 : Int32))
  zcpin (0 : Int32) (0 : Int32) (16 : Int32) 16 16 <|
  let s107 : zS := zsc s106 6 26 (Int32.toNatClampNeg (0 : Int32)) (Int32.toNatClampNeg (0 : Int32)) (Int32.toNatClampNeg (16 : Int32))
  zcpin (0 : Int32) (0 : Int32) (256 : Int32) 256 256 <|
  let s108 : zS := zsc s107 7 27 (Int32.toNatClampNeg (0 : Int32)) (Int32.toNatClampNeg (0 : Int32)) (Int32.toNatClampNeg (256 : Int32))
  zcpin (0 : Int32) (0 : Int32) (256 : Int32) 256 256 <|
  let s109 : zS := zsc s108 8 28 (Int32.toNatClampNeg (0 : Int32)) (Int32.toNatClampNeg (0 : Int32)) (Int32.toNatClampNeg (256 : Int32))
  zcpin (0 : Int32) (0 : Int32) (256 : Int32) 256 256 <|
  let s110 : zS := zsc s109 9 29 (Int32.toNatClampNeg (0 : Int32)) (Int32.toNatClampNeg (0 : Int32)) (Int32.toNatClampNeg (256 : Int32))
  zcpin (0 : Int32) (0 : Int32) (256 : Int32) 256 256 <|
  let s111 : zS := zsc s110 10 30 (Int32.toNatClampNeg (0 : Int32)) (Int32.toNatClampNeg (0 : Int32)) (Int32.toNatClampNeg (256 : Int32))
  zcpin (0 : Int32) (0 : Int32) (192 : Int32) 192 192 <|
  let s112 : zS := zsc s111 11 31 (Int32.toNatClampNeg (0 : Int32)) (Int32.toNatClampNeg (0 : Int32)) (Int32.toNatClampNeg (192 : Int32))
  some (none, s112)
set_option maxRecDepth 100000 in
set_option maxHeartbeats 4000000 in
theorem bX_W_takeFrom_0_e (C : Nat → List zV → zS → zR) (J : Nat → zL → List zV → zS → zR) (s : zS) : zline skX C J zT_W_takeFrom 0 500 (zT_W_takeFrom.drop 0) [some (.inr (.inr 22)), some (.inr (.inr 2))] [] s = bX_W_takeFrom_0 C J s := rfl
def bX_X_restore_0 (C : Nat → List zV → zS → zR) (J : Nat → zL → List zV → zS → zR) (s : zS) : zR :=
  if ¬ (zg s 0 7) = 0 then (
    zcV (C 81 [.inr (.inr 2), .inr (.inr 22)] s) fun s101 =>
    zcV (C 59 [.inr (.inr 32), .inl (zg s101 2 0)] s101) fun s102 =>
    some (some (.inl (zg s102 2 0)), s102))
  else (
    zcI (C 117 [.inr (.inr 0), .inl (-6 : Int32)] s) fun r104 s103 =>
    some (some (.inl r104), s103))
set_option maxRecDepth 100000 in
set_option maxHeartbeats 4000000 in
theorem bX_X_restore_0_e (C : Nat → List zV → zS → zR) (J : Nat → zL → List zV → zS → zR) (s : zS) : zline skX C J zT_X_restore 1 500 (zT_X_restore.drop 0) [some (.inr (.inr 0))] [] s = bX_X_restore_0 C J s := rfl
def bX_H_dropObjectsFrom_0 (C : Nat → List zV → zS → zR) (J : Nat → zL → List zV → zS → zR) (x1 : Int32) (s : zS) : zR :=
  J 2 [some (.inr (.inr 32)), some (.inl x1), some (.inl (0 : Int32))] [] s
set_option maxRecDepth 100000 in
set_option maxHeartbeats 4000000 in
theorem bX_H_dropObjectsFrom_0_e (C : Nat → List zV → zS → zR) (J : Nat → zL → List zV → zS → zR) (x1 : Int32) (s : zS) : zline skX C J zT_H_dropObjectsFrom 0 500 (zT_H_dropObjectsFrom.drop 0) [some (.inr (.inr 32)), some (.inl x1), none] [] s = bX_H_dropObjectsFrom_0 C J x1 s := rfl
def bX_H_dropObjectsFrom_2 (C : Nat → List zV → zS → zR) (J : Nat → zL → List zV → zS → zR) (x1 : Int32) (x2 : Int32) (s : zS) : zR :=
  if (8 : Int32) ≤ x2 then (
    some (none, s))
  else (
    zcI (C 49 [.inr (.inr 32), .inl x2] s) fun r102 s101 =>
    if r102 = 0 then (
      J 2 [some (.inr (.inr 32)), some (.inl x1), some (.inl (x2 + (1 : Int32)))] [] s101)
    else (
      zin x2 8 <|
      if (zg s101 33 (Int32.toNatClampNeg x2)) < x1 then (
        J 2 [some (.inr (.inr 32)), some (.inl x1), some (.inl (x2 + (1 : Int32)))] [] s101)
      else (
        zin x2 8 <|
        let s103 : zS := zs s101 33 (Int32.toNatClampNeg x2) (-1 : Int32)
        J 2 [some (.inr (.inr 32)), some (.inl x1), some (.inl (x2 + (1 : Int32)))] [] s103)))
set_option maxRecDepth 100000 in
set_option maxHeartbeats 4000000 in
theorem bX_H_dropObjectsFrom_2_e (C : Nat → List zV → zS → zR) (J : Nat → zL → List zV → zS → zR) (x1 : Int32) (x2 : Int32) (s : zS) : zline skX C J zT_H_dropObjectsFrom 0 500 (zT_H_dropObjectsFrom.drop 2) [some (.inr (.inr 32)), some (.inl x1), some (.inl x2)] [] s = bX_H_dropObjectsFrom_2 C J x1 x2 s := rfl
def bX_W_takeFrom_2_22_0 (C : Nat → List zV → zS → zR) (J : Nat → zL → List zV → zS → zR) (s : zS) : zR :=
  let s101 : zS := zs s 2 0 (zg s 22 0)
  let s102 : zS := zs s101 2 1 (zg s 22 1)
  let s103 : zS := zs s102 2 2 (zg s 22 2)
  zcpin (0 : Int32) (0 : Int32) (16 : Int32) 16 16 <|
  let s104 : zS := zsc s103 23 3 (Int32.toNatClampNeg (0 : Int32)) (Int32.toNatClampNeg (0 : Int32)) (Int32.toNatClampNeg (16 : Int32))
  zcpin (0 : Int32) (0 : Int32) (16 : Int32) 16 16 <|
  let s105 : zS := zsc s104 24 4 (Int32.toNatClampNeg (0 : Int32)) (Int32.toNatClampNeg (0 : Int32)) (Int32.toNatClampNeg (16 : Int32))
  zcpin (0 : Int32) (0 : Int32) (48 : Int32) 48 48 <|
  let s106 : zS := zsc s105 25 5 (Int32.toNatClampNeg (0 : Int32)) (Int32.toNatClampNeg (0 : Int32)) (Int32.toNatClampNeg (48 : Int32))
  zcpin (0 : Int32) (0 : Int32) (16 : Int32) 16 16 <|
  let s107 : zS := zsc s106 26 6 (Int32.toNatClampNeg (0 : Int32)) (Int32.toNatClampNeg (0 : Int32)) (Int32.toNatClampNeg (16 : Int32))
  zcpin (0 : Int32) (0 : Int32) (256 : Int32) 256 256 <|
  let s108 : zS := zsc s107 27 7 (Int32.toNatClampNeg (0 : Int32)) (Int32.toNatClampNeg (0 : Int32)) (Int32.toNatClampNeg (256 : Int32))
  zcpin (0 : Int32) (0 : Int32) (256 : Int32) 256 256 <|
  let s109 : zS := zsc s108 28 8 (Int32.toNatClampNeg (0 : Int32)) (Int32.toNatClampNeg (0 : Int32)) (Int32.toNatClampNeg (256 : Int32))
  zcpin (0 : Int32) (0 : Int32) (256 : Int32) 256 256 <|
  let s110 : zS := zsc s109 29 9 (Int32.toNatClampNeg (0 : Int32)) (Int32.toNatClampNeg (0 : Int32)) (Int32.toNatClampNeg (256 : Int32))
  zcpin (0 : Int32) (0 : Int32) (256 : Int32) 256 256 <|
  let s111 : zS := zsc s110 30 10 (Int32.toNatClampNeg (0 : Int32)) (Int32.toNatClampNeg (0 : Int32)) (Int32.toNatClampNeg (256 : Int32))
  zcpin (0 : Int32) (0 : Int32) (192 : Int32) 192 192 <|
  let s112 : zS := zsc s111 31 11 (Int32.toNatClampNeg (0 : Int32)) (Int32.toNatClampNeg (0 : Int32)) (Int32.toNatClampNeg (192 : Int32))
  some (none, s112)
set_option maxRecDepth 100000 in
set_option maxHeartbeats 4000000 in
theorem bX_W_takeFrom_2_22_0_e (C : Nat → List zV → zS → zR) (J : Nat → zL → List zV → zS → zR) (s : zS) : zline skX C J zT_W_takeFrom 0 500 (zT_W_takeFrom.drop 0) [some (.inr (.inr 2)), some (.inr (.inr 22))] [] s = bX_W_takeFrom_2_22_0 C J s := rfl
def bX_X_status_0 (C : Nat → List zV → zS → zR) (J : Nat → zL → List zV → zS → zR) (x1 : Int32) (s : zS) : zR :=
  if x1 = (0 : Int32) then (
    some (some (.inl (zg s 2 0)), s))
  else (
  if x1 = ((0 : Int32) + 1) then (
    some (some (.inl (zg s 2 1)), s))
  else (
  if x1 = (((0 : Int32) + 1) + 1) then (
    zcI (C 78 [.inr (.inr 2)] s) fun r102 s101 =>
    some (some (.inl r102), s101))
  else (
  if x1 = ((((0 : Int32) + 1) + 1) + 1) then (
    zcI (C 79 [.inr (.inr 2)] s) fun r104 s103 =>
    some (some (.inl r104), s103))
  else (
  if x1 = (((((0 : Int32) + 1) + 1) + 1) + 1) then (
    some (some (.inl (zg s 2 2)), s))
  else (
  if x1 = ((((((0 : Int32) + 1) + 1) + 1) + 1) + 1) then (
    some (some (.inl (zg s 1 3)), s))
  else (
  if x1 = (((((((0 : Int32) + 1) + 1) + 1) + 1) + 1) + 1) then (
    some (some (.inl (zg s 0 10)), s))
  else (
    if x1 ≤ (10 : Int32) then (
      some (some (.inl (-1 : Int32)), s))
    else (
      if (17 : Int32) < x1 then (
        some (some (.inl (-1 : Int32)), s))
      else (
        zin (x1 - (10 : Int32)) 8 <|
        some (some (.inl (zg s 44 (Int32.toNatClampNeg (x1 - (10 : Int32))))), s))))))))))
set_option maxRecDepth 100000 in
set_option maxHeartbeats 4000000 in
theorem bX_X_status_0_e (C : Nat → List zV → zS → zR) (J : Nat → zL → List zV → zS → zR) (x1 : Int32) (s : zS) : zline skX C J zT_X_status 1 500 (zT_X_status.drop 0) [some (.inr (.inr 0)), some (.inl x1)] [] s = bX_X_status_0 C J x1 s := rfl
def bX_W_methodsOfAll_0 (C : Nat → List zV → zS → zR) (J : Nat → zL → List zV → zS → zR) (s : zS) : zR :=
  J 4 [some (.inr (.inr 2)), some (.inl (0 : Int32)), some (.inl (0 : Int32))] [] s
set_option maxRecDepth 100000 in
set_option maxHeartbeats 4000000 in
theorem bX_W_methodsOfAll_0_e (C : Nat → List zV → zS → zR) (J : Nat → zL → List zV → zS → zR) (s : zS) : zline skX C J zT_W_methodsOfAll 1 500 (zT_W_methodsOfAll.drop 0) [some (.inr (.inr 2)), none, none] [] s = bX_W_methodsOfAll_0 C J s := rfl
def bX_W_methodsOfAll_4 (C : Nat → List zV → zS → zR) (J : Nat → zL → List zV → zS → zR) (x1 : Int32) (x2 : Int32) (s : zS) : zR :=
  if ((zg s 2 0) * (16 : Int32)) ≤ x2 then (
    some (some (.inl x1), s))
  else (
    zin x2 256 <|
    if ¬ (zg s 8 (Int32.toNatClampNeg x2)) = (2 : Int32) then (
      J 4 [some (.inr (.inr 2)), some (.inl x1), some (.inl (x2 + (1 : Int32)))] [] s)
    else (
      J 4 [some (.inr (.inr 2)), some (.inl (x1 + (1 : Int32))), some (.inl (x2 + (1 : Int32)))] [] s))
set_option maxRecDepth 100000 in
set_option maxHeartbeats 4000000 in
theorem bX_W_methodsOfAll_4_e (C : Nat → List zV → zS → zR) (J : Nat → zL → List zV → zS → zR) (x1 : Int32) (x2 : Int32) (s : zS) : zline skX C J zT_W_methodsOfAll 1 500 (zT_W_methodsOfAll.drop 4) [some (.inr (.inr 2)), some (.inl x1), some (.inl x2)] [] s = bX_W_methodsOfAll_4 C J x1 x2 s := rfl
def bX_J_fill2_33_0 (C : Nat → List zV → zS → zR) (J : Nat → zL → List zV → zS → zR) (x1 : Int32) (s : zS) : zR :=
  J 5 [some (.inr (.inr 33)), some (.inl x1), some (.inl (0 : Int32)), some (.inl (Int32.ofNat 8))] [] s
set_option maxRecDepth 100000 in
set_option maxHeartbeats 4000000 in
theorem bX_J_fill2_33_0_e (C : Nat → List zV → zS → zR) (J : Nat → zL → List zV → zS → zR) (x1 : Int32) (s : zS) : zline skX C J zT_J_fill2 0 500 (zT_J_fill2.drop 0) [some (.inr (.inr 33)), some (.inl x1), none, none] [] s = bX_J_fill2_33_0 C J x1 s := rfl
def bX_J_fill2_33_5 (C : Nat → List zV → zS → zR) (J : Nat → zL → List zV → zS → zR) (x1 : Int32) (x2 : Int32) (x3 : Int32) (s : zS) : zR :=
  if x3 ≤ x2 then (
    some (none, s))
  else (
    zin x2 8 <|
    let s101 : zS := zs s 33 (Int32.toNatClampNeg x2) x1
    J 5 [some (.inr (.inr 33)), some (.inl x1), some (.inl (x2 + (1 : Int32))), some (.inl x3)] [] s101)
set_option maxRecDepth 100000 in
set_option maxHeartbeats 4000000 in
theorem bX_J_fill2_33_5_e (C : Nat → List zV → zS → zR) (J : Nat → zL → List zV → zS → zR) (x1 : Int32) (x2 : Int32) (x3 : Int32) (s : zS) : zline skX C J zT_J_fill2 0 500 (zT_J_fill2.drop 5) [some (.inr (.inr 33)), some (.inl x1), some (.inl x2), some (.inl x3)] [] s = bX_J_fill2_33_5 C J x1 x2 x3 s := rfl
