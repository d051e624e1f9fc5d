/-! THE BODIES: each stretch from cut to cut as a term, by program (wip/whole/gen.py) -/
def bM_M_row_0 (C : Nat → List zV → zS → zR) (J : Nat → zL → List zV → zS → zR) (x1 : Int32) (x2 : Int32) (x3 : Int32) (s : zS) : zR :=
  zcI (C 128 [.inl x1, .inl (0 : Int32), .inl (7 : Int32)] s) fun r102 s101 =>
  if ¬ r102 = 0 then (
    if 0 ≤ x3 then (
      zcI (C 128 [.inl x2, .inl (0 : Int32), .inl (3 : Int32)] s101) fun r104 s103 =>
      if ¬ r104 = 0 then (
        if x3 ≤ (160 : Int32) then (
          zin x1 8 <|
          let s105 : zS := zs s103 11 (Int32.toNatClampNeg x1) ((100 : Int32) + x2)
          zin x1 8 <|
          let s106 : zS := zs s105 12 (Int32.toNatClampNeg x1) x3
          J 45 [some (.inr (.inr 0)), some (.inl x1), none, none, some (.inl (0 : Int32))] [] s106)
        else (
          zcI (C 126 [.inr (.inr 0), .inl (-7 : Int32)] s103) fun r108 s107 =>
          some (some (.inl r108), s107)))
      else (
        zcI (C 126 [.inr (.inr 0), .inl (-6 : Int32)] s103) fun r110 s109 =>
        some (some (.inl r110), s109)))
    else (
      zcI (C 126 [.inr (.inr 0), .inl (-4 : Int32)] s101) fun r112 s111 =>
      some (some (.inl r112), s111)))
  else (
    zcI (C 126 [.inr (.inr 0), .inl (-1 : Int32)] s101) fun r114 s113 =>
    some (some (.inl r114), s113))
set_option maxRecDepth 100000 in
set_option maxHeartbeats 4000000 in
theorem bM_M_row_0_e (C : Nat → List zV → zS → zR) (J : Nat → zL → List zV → zS → zR) (x1 : Int32) (x2 : Int32) (x3 : Int32) (s : zS) : zline skM C J zT_M_row 1 500 (zT_M_row.drop 0) [some (.inr (.inr 0)), some (.inl x1), some (.inl x2), some (.inl x3), none] [] s = bM_M_row_0 C J x1 x2 x3 s := rfl
def bM_M_row_45 (C : Nat → List zV → zS → zR) (J : Nat → zL → List zV → zS → zR) (x1 : Int32) (x4 : Int32) (s : zS) : zR :=
  if (160 : Int32) ≤ x4 then (
    some (some (.inl (1 : Int32)), s))
  else (
    zin (((160 : Int32) * x1) + x4) 1280 <|
    let s101 : zS := zsl s 13 (Int32.toNatClampNeg (((160 : Int32) * x1) + x4)) (0 : Int64)
    J 45 [some (.inr (.inr 0)), some (.inl x1), none, none, some (.inl (x4 + (1 : Int32)))] [] s101)
set_option maxRecDepth 100000 in
set_option maxHeartbeats 4000000 in
theorem bM_M_row_45_e (C : Nat → List zV → zS → zR) (J : Nat → zL → List zV → zS → zR) (x1 : Int32) (x4 : Int32) (s : zS) : zline skM C J zT_M_row 1 500 (zT_M_row.drop 45) [some (.inr (.inr 0)), some (.inl x1), none, none, some (.inl x4)] [] s = bM_M_row_45 C J x1 x4 s := rfl
def bM_M_within_0 (C : Nat → List zV → zS → zR) (J : Nat → zL → List zV → zS → zR) (x0 : Int32) (x1 : Int32) (x2 : Int32) (s : zS) : zR :=
  if x0 < x1 then (
    zbo (0 : Int32) <|
    some (some (.inl (0 : Int32)), s))
  else (
    if x2 < x0 then (
      zbo (0 : Int32) <|
      some (some (.inl (0 : Int32)), s))
    else (
      zbo (1 : Int32) <|
      some (some (.inl (1 : Int32)), s)))
set_option maxRecDepth 100000 in
set_option maxHeartbeats 4000000 in
theorem bM_M_within_0_e (C : Nat → List zV → zS → zR) (J : Nat → zL → List zV → zS → zR) (x0 : Int32) (x1 : Int32) (x2 : Int32) (s : zS) : zline skM C J zT_M_within 3 500 (zT_M_within.drop 0) [some (.inl x0), some (.inl x1), some (.inl x2)] [] s = bM_M_within_0 C J x0 x1 x2 s := rfl
def bM_M_no_0 (C : Nat → List zV → zS → zR) (J : Nat → zL → List zV → zS → zR) (x1 : Int32) (s : zS) : zR :=
  zin (-x1) 8 <|
  zin (-x1) 8 <|
  let s101 : zS := zs s 15 (Int32.toNatClampNeg (-x1)) ((zg s 15 (Int32.toNatClampNeg (-x1))) + (1 : Int32))
  some (some (.inl x1), s101)
set_option maxRecDepth 100000 in
set_option maxHeartbeats 4000000 in
theorem bM_M_no_0_e (C : Nat → List zV → zS → zR) (J : Nat → zL → List zV → zS → zR) (x1 : Int32) (s : zS) : zline skM C J zT_M_no 1 500 (zT_M_no.drop 0) [some (.inr (.inr 0)), some (.inl x1)] [] s = bM_M_no_0 C J x1 s := rfl
def bM_M_set_0 (C : Nat → List zV → zS → zR) (J : Nat → zL → List zV → zS → zR) (x1 : Int32) (x2 : Int32) (x3 : Int64) (s : zS) : zR :=
  zcI (C 134 [.inr (.inr 0), .inl x1] s) fun r102 s101 =>
  if 0 ≤ r102 then (
    zin x1 8 <|
    zcI (C 128 [.inl x2, .inl (0 : Int32), .inl ((zg s101 12 (Int32.toNatClampNeg x1)) - (1 : Int32))] s101) fun r104 s103 =>
    if ¬ r104 = 0 then (
      zin x1 8 <|
      let x105 : Int32 := ((zg s103 11 (Int32.toNatClampNeg x1)) - (100 : Int32))
      if ¬ x105 = 0 then (
        if ¬ x105 = (1 : Int32) then (
          if ¬ x105 = (2 : Int32) then (
            zin (((160 : Int32) * x1) + x2) 1280 <|
            let s106 : zS := zsl s103 13 (Int32.toNatClampNeg (((160 : Int32) * x1) + x2)) x3
            some (some (.inl (1 : Int32)), s106))
          else (
            zin (((160 : Int32) * x1) + x2) 1280 <|
            let s107 : zS := zsl s103 13 (Int32.toNatClampNeg (((160 : Int32) * x1) + x2)) (Int32.toInt64 (Int64.toInt32 x3))
            some (some (.inl (1 : Int32)), s107)))
        else (
          zin (((160 : Int32) * x1) + x2) 1280 <|
          let s108 : zS := zsl s103 13 (Int32.toNatClampNeg (((160 : Int32) * x1) + x2)) (Int32.toInt64 (Int16.toInt32 (Int32.toInt16 (Int64.toInt32 x3))))
          some (some (.inl (1 : Int32)), s108)))
      else (
        zin (((160 : Int32) * x1) + x2) 1280 <|
        let s109 : zS := zsl s103 13 (Int32.toNatClampNeg (((160 : Int32) * x1) + x2)) (Int32.toInt64 (Int8.toInt32 (Int32.toInt8 (Int64.toInt32 x3))))
        some (some (.inl (1 : Int32)), s109)))
    else (
      zcI (C 126 [.inr (.inr 0), .inl (-5 : Int32)] s103) fun r111 s110 =>
      some (some (.inl r111), s110)))
  else (
    zcI (C 126 [.inr (.inr 0), .inl r102] s101) fun r113 s112 =>
    some (some (.inl r113), s112))
set_option maxRecDepth 100000 in
set_option maxHeartbeats 4000000 in
theorem bM_M_set_0_e (C : Nat → List zV → zS → zR) (J : Nat → zL → List zV → zS → zR) (x1 : Int32) (x2 : Int32) (x3 : Int64) (s : zS) : zline skM C J zT_M_set 1 500 (zT_M_set.drop 0) [some (.inr (.inr 0)), some (.inl x1), some (.inl x2), some (.inr (.inl x3)), none, none, none] [] s = bM_M_set_0 C J x1 x2 x3 s := rfl
def bM_M_noRow_0 (C : Nat → List zV → zS → zR) (J : Nat → zL → List zV → zS → zR) (x1 : Int32) (s : zS) : zR :=
  zcI (C 128 [.inl x1, .inl (0 : Int32), .inl (7 : Int32)] s) fun r102 s101 =>
  if ¬ r102 = 0 then (
    zin x1 8 <|
    if (zg s101 11 (Int32.toNatClampNeg x1)) < 0 then (
      zin x1 8 <|
      if 0 ≤ (zg s101 11 (Int32.toNatClampNeg x1)) then (
        some (some (.inl (0 : Int32)), s101))
      else (
        some (some (.inl (-3 : Int32)), s101)))
    else (
      zcI (C 132 [.inr (.inr 0), .inl x1] s101) fun r104 s103 =>
      if ¬ r104 = 0 then (
        zin x1 8 <|
        if 0 ≤ (zg s103 11 (Int32.toNatClampNeg x1)) then (
          some (some (.inl (0 : Int32)), s103))
        else (
          some (some (.inl (-3 : Int32)), s103)))
      else (
        some (some (.inl (-2 : Int32)), s103))))
  else (
    some (some (.inl (-1 : Int32)), s101))
set_option maxRecDepth 100000 in
set_option maxHeartbeats 4000000 in
theorem bM_M_noRow_0_e (C : Nat → List zV → zS → zR) (J : Nat → zL → List zV → zS → zR) (x1 : Int32) (s : zS) : zline skM C J zT_M_noRow 1 500 (zT_M_noRow.drop 0) [some (.inr (.inr 0)), some (.inl x1)] [] s = bM_M_noRow_0 C J x1 s := rfl
def bM_M_isRow_0 (C : Nat → List zV → zS → zR) (J : Nat → zL → List zV → zS → zR) (x1 : Int32) (s : zS) : zR :=
  zin x1 8 <|
  if (zg s 11 (Int32.toNatClampNeg x1)) < (100 : Int32) then (
    zbo (0 : Int32) <|
    some (some (.inl (0 : Int32)), s))
  else (
    zbo (1 : Int32) <|
    some (some (.inl (1 : Int32)), s))
set_option maxRecDepth 100000 in
set_option maxHeartbeats 4000000 in
theorem bM_M_isRow_0_e (C : Nat → List zV → zS → zR) (J : Nat → zL → List zV → zS → zR) (x1 : Int32) (s : zS) : zline skM C J zT_M_isRow 3 500 (zT_M_isRow.drop 0) [some (.inr (.inr 0)), some (.inl x1)] [] s = bM_M_isRow_0 C J x1 s := rfl
def bM_M_copy_0 (C : Nat → List zV → zS → zR) (J : Nat → zL → List zV → zS → zR) (x1 : Int32) (x2 : Int32) (x3 : Int32) (x4 : Int32) (x5 : Int32) (s : zS) : zR :=
  zcI (C 128 [.inl x1, .inl (0 : Int32), .inl (7 : Int32)] s) fun r102 s101 =>
  if r102 = 0 then (
    zcI (C 126 [.inr (.inr 0), .inl (-1 : Int32)] s101) fun r104 s103 =>
    some (some (.inl r104), s103))
  else (
    zcI (C 128 [.inl x2, .inl (0 : Int32), .inl (7 : Int32)] s101) fun r106 s105 =>
    if ¬ r106 = 0 then (
      zin x1 8 <|
      if (zg s105 11 (Int32.toNatClampNeg x1)) < 0 then (
        J 23 [some (.inr (.inr 0)), some (.inl x1), some (.inl x2), some (.inl x3), some (.inl x4), some (.inl x5), none] [] s105)
      else (
        zcI (C 132 [.inr (.inr 0), .inl x1] s105) fun r108 s107 =>
        if r108 = 0 then (
          zcI (C 126 [.inr (.inr 0), .inl (-2 : Int32)] s107) fun r110 s109 =>
          some (some (.inl r110), s109))
        else (
          J 23 [some (.inr (.inr 0)), some (.inl x1), some (.inl x2), some (.inl x3), some (.inl x4), some (.inl x5), none] [] s107)))
    else (
      zcI (C 126 [.inr (.inr 0), .inl (-1 : Int32)] s105) fun r112 s111 =>
      some (some (.inl r112), s111)))
set_option maxRecDepth 100000 in
set_option maxHeartbeats 4000000 in
theorem bM_M_copy_0_e (C : Nat → List zV → zS → zR) (J : Nat → zL → List zV → zS → zR) (x1 : Int32) (x2 : Int32) (x3 : Int32) (x4 : Int32) (x5 : Int32) (s : zS) : zline skM C J zT_M_copy 1 500 (zT_M_copy.drop 0) [some (.inr (.inr 0)), some (.inl x1), some (.inl x2), some (.inl x3), some (.inl x4), some (.inl x5), none] [] s = bM_M_copy_0 C J x1 x2 x3 x4 x5 s := rfl
def bM_M_copy_23 (C : Nat → List zV → zS → zR) (J : Nat → zL → List zV → zS → zR) (x1 : Int32) (x2 : Int32) (x3 : Int32) (x4 : Int32) (x5 : Int32) (s : zS) : zR :=
  zin x2 8 <|
  if (zg s 11 (Int32.toNatClampNeg x2)) < 0 then (
    J 32 [some (.inr (.inr 0)), some (.inl x1), some (.inl x2), some (.inl x3), some (.inl x4), some (.inl x5), none] [] s)
  else (
    zcI (C 132 [.inr (.inr 0), .inl x2] s) fun r102 s101 =>
    if r102 = 0 then (
      zcI (C 126 [.inr (.inr 0), .inl (-2 : Int32)] s101) fun r104 s103 =>
      some (some (.inl r104), s103))
    else (
      J 32 [some (.inr (.inr 0)), some (.inl x1), some (.inl x2), some (.inl x3), some (.inl x4), some (.inl x5), none] [] s101))
set_option maxRecDepth 100000 in
set_option maxHeartbeats 4000000 in
theorem bM_M_copy_23_e (C : Nat → List zV → zS → zR) (J : Nat → zL → List zV → zS → zR) (x1 : Int32) (x2 : Int32) (x3 : Int32) (x4 : Int32) (x5 : Int32) (s : zS) : zline skM C J zT_M_copy 1 500 (zT_M_copy.drop 23) [some (.inr (.inr 0)), some (.inl x1), some (.inl x2), some (.inl x3), some (.inl x4), some (.inl x5), none] [] s = bM_M_copy_23 C J x1 x2 x3 x4 x5 s := rfl
def bM_M_copy_32 (C : Nat → List zV → zS → zR) (J : Nat → zL → List zV → zS → zR) (x1 : Int32) (x2 : Int32) (x3 : Int32) (x4 : Int32) (x5 : Int32) (s : zS) : zR :=
  zcI (C 132 [.inr (.inr 0), .inl x1] s) fun r102 s101 =>
  if r102 = 0 then (
    zin x1 8 <|
    if (zg s101 11 (Int32.toNatClampNeg x1)) < 0 then (
      zcI (C 126 [.inr (.inr 0), .inl (-3 : Int32)] s101) fun r104 s103 =>
      some (some (.inl r104), s103))
    else (
      zin x2 8 <|
      if 0 ≤ (zg s101 11 (Int32.toNatClampNeg x2)) then (
        if 0 ≤ x5 then (
          if x3 < 0 then (
            zcI (C 126 [.inr (.inr 0), .inl (-5 : Int32)] s101) fun r106 s105 =>
            some (some (.inl r106), s105))
          else (
            if x4 < 0 then (
              zcI (C 126 [.inr (.inr 0), .inl (-5 : Int32)] s101) fun r108 s107 =>
              some (some (.inl r108), s107))
            else (
              zin x1 8 <|
              if 0 < (lg_cmp ((Int32.toInt64 x3) + (Int32.toInt64 x5)) (Int32.toInt64 (zg s101 12 (Int32.toNatClampNeg x1)))) then (
                zcI (C 126 [.inr (.inr 0), .inl (-5 : Int32)] s101) fun r110 s109 =>
                some (some (.inl r110), s109))
              else (
                zin x2 8 <|
                if (lg_cmp ((Int32.toInt64 x4) + (Int32.toInt64 x5)) (Int32.toInt64 (zg s101 12 (Int32.toNatClampNeg x2)))) ≤ 0 then (
                  if ¬ x1 = x2 then (
                    J 142 [some (.inr (.inr 0)), some (.inl x1), some (.inl x2), some (.inl x3), some (.inl x4), some (.inl x5), some (.inl (0 : Int32))] [] s101)
                  else (
                    if x4 ≤ x3 then (
                      J 142 [some (.inr (.inr 0)), some (.inl x1), some (.inl x2), some (.inl x3), some (.inl x4), some (.inl x5), some (.inl (0 : Int32))] [] s101)
                    else (
                      J 115 [some (.inr (.inr 0)), some (.inl x1), some (.inl x2), some (.inl x3), some (.inl x4), none, some (.inl (x5 - (1 : Int32)))] [] s101)))
                else (
                  zcI (C 126 [.inr (.inr 0), .inl (-5 : Int32)] s101) fun r112 s111 =>
                  some (some (.inl r112), s111))))))
        else (
          zcI (C 126 [.inr (.inr 0), .inl (-4 : Int32)] s101) fun r114 s113 =>
          some (some (.inl r114), s113)))
      else (
        zcI (C 126 [.inr (.inr 0), .inl (-3 : Int32)] s101) fun r116 s115 =>
        some (some (.inl r116), s115))))
  else (
    zcI (C 132 [.inr (.inr 0), .inl x2] s101) fun r118 s117 =>
    if r118 = 0 then (
      zin x1 8 <|
      if (zg s117 11 (Int32.toNatClampNeg x1)) < 0 then (
        zcI (C 126 [.inr (.inr 0), .inl (-3 : Int32)] s117) fun r120 s119 =>
        some (some (.inl r120), s119))
      else (
        zin x2 8 <|
        if 0 ≤ (zg s117 11 (Int32.toNatClampNeg x2)) then (
          if 0 ≤ x5 then (
            if x3 < 0 then (
              zcI (C 126 [.inr (.inr 0), .inl (-5 : Int32)] s117) fun r122 s121 =>
              some (some (.inl r122), s121))
            else (
              if x4 < 0 then (
                zcI (C 126 [.inr (.inr 0), .inl (-5 : Int32)] s117) fun r124 s123 =>
                some (some (.inl r124), s123))
              else (
                zin x1 8 <|
                if 0 < (lg_cmp ((Int32.toInt64 x3) + (Int32.toInt64 x5)) (Int32.toInt64 (zg s117 12 (Int32.toNatClampNeg x1)))) then (
                  zcI (C 126 [.inr (.inr 0), .inl (-5 : Int32)] s117) fun r126 s125 =>
                  some (some (.inl r126), s125))
                else (
                  zin x2 8 <|
                  if (lg_cmp ((Int32.toInt64 x4) + (Int32.toInt64 x5)) (Int32.toInt64 (zg s117 12 (Int32.toNatClampNeg x2)))) ≤ 0 then (
                    if ¬ x1 = x2 then (
                      J 142 [some (.inr (.inr 0)), some (.inl x1), some (.inl x2), some (.inl x3), some (.inl x4), some (.inl x5), some (.inl (0 : Int32))] [] s117)
                    else (
                      if x4 ≤ x3 then (
                        J 142 [some (.inr (.inr 0)), some (.inl x1), some (.inl x2), some (.inl x3), some (.inl x4), some (.inl x5), some (.inl (0 : Int32))] [] s117)
                      else (
                        J 115 [some (.inr (.inr 0)), some (.inl x1), some (.inl x2), some (.inl x3), some (.inl x4), none, some (.inl (x5 - (1 : Int32)))] [] s117)))
                  else (
                    zcI (C 126 [.inr (.inr 0), .inl (-5 : Int32)] s117) fun r128 s127 =>
                    some (some (.inl r128), s127))))))
          else (
            zcI (C 126 [.inr (.inr 0), .inl (-4 : Int32)] s117) fun r130 s129 =>
            some (some (.inl r130), s129)))
        else (
          zcI (C 126 [.inr (.inr 0), .inl (-3 : Int32)] s117) fun r132 s131 =>
          some (some (.inl r132), s131))))
    else (
      zin x1 8 <|
      zin x2 8 <|
      if (zg s117 11 (Int32.toNatClampNeg x1)) = (zg s117 11 (Int32.toNatClampNeg x2)) then (
        zin x1 8 <|
        if (zg s117 11 (Int32.toNatClampNeg x1)) < 0 then (
          zcI (C 126 [.inr (.inr 0), .inl (-3 : Int32)] s117) fun r134 s133 =>
          some (some (.inl r134), s133))
        else (
          zin x2 8 <|
          if 0 ≤ (zg s117 11 (Int32.toNatClampNeg x2)) then (
            if 0 ≤ x5 then (
              if x3 < 0 then (
                zcI (C 126 [.inr (.inr 0), .inl (-5 : Int32)] s117) fun r136 s135 =>
                some (some (.inl r136), s135))
              else (
                if x4 < 0 then (
                  zcI (C 126 [.inr (.inr 0), .inl (-5 : Int32)] s117) fun r138 s137 =>
                  some (some (.inl r138), s137))
                else (
                  zin x1 8 <|
                  if 0 < (lg_cmp ((Int32.toInt64 x3) + (Int32.toInt64 x5)) (Int32.toInt64 (zg s117 12 (Int32.toNatClampNeg x1)))) then (
                    zcI (C 126 [.inr (.inr 0), .inl (-5 : Int32)] s117) fun r140 s139 =>
                    some (some (.inl r140), s139))
                  else (
                    zin x2 8 <|
                    if (lg_cmp ((Int32.toInt64 x4) + (Int32.toInt64 x5)) (Int32.toInt64 (zg s117 12 (Int32.toNatClampNeg x2)))) ≤ 0 then (
                      if ¬ x1 = x2 then (
                        J 142 [some (.inr (.inr 0)), some (.inl x1), some (.inl x2), some (.inl x3), some (.inl x4), some (.inl x5), some (.inl (0 : Int32))] [] s117)
                      else (
                        if x4 ≤ x3 then (
                          J 142 [some (.inr (.inr 0)), some (.inl x1), some (.inl x2), some (.inl x3), some (.inl x4), some (.inl x5), some (.inl (0 : Int32))] [] s117)
                        else (
                          J 115 [some (.inr (.inr 0)), some (.inl x1), some (.inl x2), some (.inl x3), some (.inl x4), none, some (.inl (x5 - (1 : Int32)))] [] s117)))
                    else (
                      zcI (C 126 [.inr (.inr 0), .inl (-5 : Int32)] s117) fun r142 s141 =>
                      some (some (.inl r142), s141))))))
            else (
              zcI (C 126 [.inr (.inr 0), .inl (-4 : Int32)] s117) fun r144 s143 =>
              some (some (.inl r144), s143)))
          else (
            zcI (C 126 [.inr (.inr 0), .inl (-3 : Int32)] s117) fun r146 s145 =>
            some (some (.inl r146), s145))))
      else (
        zcI (C 126 [.inr (.inr 0), .inl (-2 : Int32)] s117) fun r148 s147 =>
        some (some (.inl r148), s147))))
set_option maxRecDepth 100000 in
set_option maxHeartbeats 4000000 in
theorem bM_M_copy_32_e (C : Nat → List zV → zS → zR) (J : Nat → zL → List zV → zS → zR) (x1 : Int32) (x2 : Int32) (x3 : Int32) (x4 : Int32) (x5 : Int32) (s : zS) : zline skM C J zT_M_copy 1 500 (zT_M_copy.drop 32) [some (.inr (.inr 0)), some (.inl x1), some (.inl x2), some (.inl x3), some (.inl x4), some (.inl x5), none] [] s = bM_M_copy_32 C J x1 x2 x3 x4 x5 s := rfl
def bM_M_copy_115 (C : Nat → List zV → zS → zR) (J : Nat → zL → List zV → zS → zR) (x1 : Int32) (x2 : Int32) (x3 : Int32) (x4 : Int32) (x6 : Int32) (s : zS) : zR :=
  if x6 < 0 then (
    some (some (.inl (1 : Int32)), s))
  else (
    zin ((((160 : Int32) * x1) + x3) + x6) 1280 <|
    zin ((((160 : Int32) * x2) + x4) + x6) 1280 <|
    let s101 : zS := zsl s 13 (Int32.toNatClampNeg ((((160 : Int32) * x2) + x4) + x6)) (zgl s 13 (Int32.toNatClampNeg ((((160 : Int32) * x1) + x3) + x6)))
    J 115 [some (.inr (.inr 0)), some (.inl x1), some (.inl x2), some (.inl x3), some (.inl x4), none, some (.inl (x6 + (-1 : Int32)))] [] s101)
set_option maxRecDepth 100000 in
set_option maxHeartbeats 4000000 in
theorem bM_M_copy_115_e (C : Nat → List zV → zS → zR) (J : Nat → zL → List zV → zS → zR) (x1 : Int32) (x2 : Int32) (x3 : Int32) (x4 : Int32) (x6 : Int32) (s : zS) : zline skM C J zT_M_copy 1 500 (zT_M_copy.drop 115) [some (.inr (.inr 0)), some (.inl x1), some (.inl x2), some (.inl x3), some (.inl x4), none, some (.inl x6)] [] s = bM_M_copy_115 C J x1 x2 x3 x4 x6 s := rfl
def bM_M_copy_142 (C : Nat → List zV → zS → zR) (J : Nat → zL → List zV → zS → zR) (x1 : Int32) (x2 : Int32) (x3 : Int32) (x4 : Int32) (x5 : Int32) (x6 : Int32) (s : zS) : zR :=
  if x5 ≤ x6 then (
    some (some (.inl (1 : Int32)), s))
  else (
    zin ((((160 : Int32) * x1) + x3) + x6) 1280 <|
    zin ((((160 : Int32) * x2) + x4) + x6) 1280 <|
    let s101 : zS := zsl s 13 (Int32.toNatClampNeg ((((160 : Int32) * x2) + x4) + x6)) (zgl s 13 (Int32.toNatClampNeg ((((160 : Int32) * x1) + x3) + x6)))
    J 142 [some (.inr (.inr 0)), some (.inl x1), some (.inl x2), some (.inl x3), some (.inl x4), some (.inl x5), some (.inl (x6 + (1 : Int32)))] [] s101)
set_option maxRecDepth 100000 in
set_option maxHeartbeats 4000000 in
theorem bM_M_copy_142_e (C : Nat → List zV → zS → zR) (J : Nat → zL → List zV → zS → zR) (x1 : Int32) (x2 : Int32) (x3 : Int32) (x4 : Int32) (x5 : Int32) (x6 : Int32) (s : zS) : zline skM C J zT_M_copy 1 500 (zT_M_copy.drop 142) [some (.inr (.inr 0)), some (.inl x1), some (.inl x2), some (.inl x3), some (.inl x4), some (.inl x5), some (.inl x6)] [] s = bM_M_copy_142 C J x1 x2 x3 x4 x5 x6 s := rfl
def bM_M_element_0 (C : Nat → List zV → zS → zR) (J : Nat → zL → List zV → zS → zR) (x1 : Int32) (x2 : Int32) (s : zS) : zR :=
  zcI (C 128 [.inl x1, .inl (0 : Int32), .inl (7 : Int32)] s) fun r102 s101 =>
  if r102 = 0 then (
    some (some (.inr (.inl (0 : Int64))), s101))
  else (
    zcI (C 132 [.inr (.inr 0), .inl x1] s101) fun r104 s103 =>
    if r104 = 0 then (
      some (some (.inr (.inl (0 : Int64))), s103))
    else (
      zin x1 8 <|
      zcI (C 128 [.inl x2, .inl (0 : Int32), .inl ((zg s103 12 (Int32.toNatClampNeg x1)) - (1 : Int32))] s103) fun r106 s105 =>
      if r106 = 0 then (
        some (some (.inr (.inl (0 : Int64))), s105))
      else (
        zin (((160 : Int32) * x1) + x2) 1280 <|
        some (some (.inr (.inl (zgl s105 13 (Int32.toNatClampNeg (((160 : Int32) * x1) + x2))))), s105))))
set_option maxRecDepth 100000 in
set_option maxHeartbeats 4000000 in
theorem bM_M_element_0_e (C : Nat → List zV → zS → zR) (J : Nat → zL → List zV → zS → zR) (x1 : Int32) (x2 : Int32) (s : zS) : zline skM C J zT_M_element 2 500 (zT_M_element.drop 0) [some (.inr (.inr 0)), some (.inl x1), some (.inl x2)] [] s = bM_M_element_0 C J x1 x2 s := rfl
def bM_M_show_0 (C : Nat → List zV → zS → zR) (J : Nat → zL → List zV → zS → zR) (x1 : Int32) (x2 : Int32) (s : zS) : zR :=
  zcI (C 128 [.inl x1, .inl (0 : Int32), .inl (7 : Int32)] s) fun r102 s101 =>
  if r102 = 0 then (
    zcI (C 126 [.inr (.inr 0), .inl (-1 : Int32)] s101) fun r104 s103 =>
    some (some (.inl r104), s103))
  else (
    if x2 = (-1 : Int32) then (
      zin x1 8 <|
      let s105 : zS := zs s101 11 (Int32.toNatClampNeg x1) x2
      if ¬ x2 = (-1 : Int32) then (
        some (some (.inl (1 : Int32)), s105))
      else (
        some (some (.inl (0 : Int32)), s105)))
    else (
      zcI (C 129 [.inr (.inr 0), .inl x2] s101) fun r107 s106 =>
      if ¬ r107 = 0 then (
        zin x1 8 <|
        let s108 : zS := zs s106 11 (Int32.toNatClampNeg x1) x2
        if ¬ x2 = (-1 : Int32) then (
          some (some (.inl (1 : Int32)), s108))
        else (
          some (some (.inl (0 : Int32)), s108)))
      else (
        zcI (C 126 [.inr (.inr 0), .inl (-1 : Int32)] s106) fun r110 s109 =>
        some (some (.inl r110), s109))))
set_option maxRecDepth 100000 in
set_option maxHeartbeats 4000000 in
theorem bM_M_show_0_e (C : Nat → List zV → zS → zR) (J : Nat → zL → List zV → zS → zR) (x1 : Int32) (x2 : Int32) (s : zS) : zline skM C J zT_M_show 1 500 (zT_M_show.drop 0) [some (.inr (.inr 0)), some (.inl x1), some (.inl x2)] [] s = bM_M_show_0 C J x1 x2 s := rfl
def bM_M_isOne_0 (C : Nat → List zV → zS → zR) (J : Nat → zL → List zV → zS → zR) (x1 : Int32) (s : zS) : zR :=
  zcI (C 128 [.inl x1, .inl (0 : Int32), .inl ((zg s 0 0) - (1 : Int32))] s) fun r102 s101 =>
  zbo r102 <|
  some (some (.inl r102), s101)
set_option maxRecDepth 100000 in
set_option maxHeartbeats 4000000 in
theorem bM_M_isOne_0_e (C : Nat → List zV → zS → zR) (J : Nat → zL → List zV → zS → zR) (x1 : Int32) (s : zS) : zline skM C J zT_M_isOne 3 500 (zT_M_isOne.drop 0) [some (.inr (.inr 0)), some (.inl x1)] [] s = bM_M_isOne_0 C J x1 s := rfl
def bM_M_holds_0 (C : Nat → List zV → zS → zR) (J : Nat → zL → List zV → zS → zR) (x1 : Int32) (s : zS) : zR :=
  zcI (C 128 [.inl x1, .inl (0 : Int32), .inl (7 : Int32)] s) fun r102 s101 =>
  if r102 = 0 then (
    some (some (.inl (-1 : Int32)), s101))
  else (
    zin x1 8 <|
    some (some (.inl (zg s101 11 (Int32.toNatClampNeg x1))), s101))
set_option maxRecDepth 100000 in
set_option maxHeartbeats 4000000 in
theorem bM_M_holds_0_e (C : Nat → List zV → zS → zR) (J : Nat → zL → List zV → zS → zR) (x1 : Int32) (s : zS) : zline skM C J zT_M_holds 1 500 (zT_M_holds.drop 0) [some (.inr (.inr 0)), some (.inl x1)] [] s = bM_M_holds_0 C J x1 s := rfl
def bM_M_says_0 (C : Nat → List zV → zS → zR) (J : Nat → zL → List zV → zS → zR) (x1 : Int32) (x2 : Int32) (s : zS) : zR :=
  zcI (C 128 [.inl x1, .inl (0 : Int32), .inl (7 : Int32)] s) fun r102 s101 =>
  if r102 = 0 then (
    zcI (C 126 [.inr (.inr 0), .inl (-1 : Int32)] s101) fun r104 s103 =>
    some (some (.inl r104), s103))
  else (
    zcI (C 128 [.inl x2, .inl (0 : Int32), .inl (3 : Int32)] s101) fun r106 s105 =>
    if ¬ r106 = 0 then (
      zin x1 8 <|
      if (zg s105 11 (Int32.toNatClampNeg x1)) < 0 then (
        J 46 [some (.inr (.inr 0)), none, some (.inl x2), some (.inl (zg s105 11 (Int32.toNatClampNeg x1)))] [] s105)
      else (
        zcI (C 132 [.inr (.inr 0), .inl x1] s105) fun r108 s107 =>
        if ¬ r108 = 0 then (
          zcI (C 126 [.inr (.inr 0), .inl (-2 : Int32)] s107) fun r110 s109 =>
          some (some (.inl r110), s109))
        else (
          if x2 = 0 then (
            J 46 [some (.inr (.inr 0)), none, some (.inl x2), some (.inl (zg s105 11 (Int32.toNatClampNeg x1)))] [] s107)
          else (
            zin (zg s105 11 (Int32.toNatClampNeg x1)) 16 <|
            if (zg s107 1 (Int32.toNatClampNeg (zg s105 11 (Int32.toNatClampNeg x1)))) = x2 then (
              J 46 [some (.inr (.inr 0)), none, some (.inl x2), some (.inl (zg s105 11 (Int32.toNatClampNeg x1)))] [] s107)
            else (
              if ¬ x2 = (1 : Int32) then (
                zcI (C 126 [.inr (.inr 0), .inl (-2 : Int32)] s107) fun r112 s111 =>
                some (some (.inl r112), s111))
              else (
                zin (zg s105 11 (Int32.toNatClampNeg x1)) 16 <|
                if (zg s107 1 (Int32.toNatClampNeg (zg s105 11 (Int32.toNatClampNeg x1)))) = (3 : Int32) then (
                  J 46 [some (.inr (.inr 0)), none, some (.inl x2), some (.inl (zg s105 11 (Int32.toNatClampNeg x1)))] [] s107)
                else (
                  zcI (C 126 [.inr (.inr 0), .inl (-2 : Int32)] s107) fun r114 s113 =>
                  some (some (.inl r114), s113))))))))
    else (
      zcI (C 126 [.inr (.inr 0), .inl (-1 : Int32)] s105) fun r116 s115 =>
      some (some (.inl r116), s115)))
set_option maxRecDepth 100000 in
set_option maxHeartbeats 4000000 in
theorem bM_M_says_0_e (C : Nat → List zV → zS → zR) (J : Nat → zL → List zV → zS → zR) (x1 : Int32) (x2 : Int32) (s : zS) : zline skM C J zT_M_says 1 500 (zT_M_says.drop 0) [some (.inr (.inr 0)), some (.inl x1), some (.inl x2), none] [] s = bM_M_says_0 C J x1 x2 s := rfl
def bM_M_says_46 (C : Nat → List zV → zS → zR) (J : Nat → zL → List zV → zS → zR) (x2 : Int32) (x3 : Int32) (s : zS) : zR :=
  if 0 ≤ x3 then (
    if x2 = (0 : Int32) then (
      zin x3 16 <|
      some (some (.inl (zg s 4 (Int32.toNatClampNeg x3))), s))
    else (
    if x2 = ((0 : Int32) + 1) then (
      zin x3 16 <|
      zcI (C 215 [.inl (zg s 6 (Int32.toNatClampNeg x3))] s) fun r102 s101 =>
      some (some (.inl r102), s101))
    else (
    if x2 = (((0 : Int32) + 1) + 1) then (
      zin x3 16 <|
      some (some (.inl (zg s 2 (Int32.toNatClampNeg x3))), s))
    else (
      zin x3 16 <|
      some (some (.inl (zg s 6 (Int32.toNatClampNeg x3))), s)))))
  else (
    zcI (C 126 [.inr (.inr 0), .inl (-3 : Int32)] s) fun r104 s103 =>
    some (some (.inl r104), s103))
set_option maxRecDepth 100000 in
set_option maxHeartbeats 4000000 in
theorem bM_M_says_46_e (C : Nat → List zV → zS → zR) (J : Nat → zL → List zV → zS → zR) (x2 : Int32) (x3 : Int32) (s : zS) : zline skM C J zT_M_says 1 500 (zT_M_says.drop 46) [some (.inr (.inr 0)), none, some (.inl x2), some (.inl x3)] [] s = bM_M_says_46 C J x2 x3 s := rfl
def bM_J_bitCount_0 (C : Nat → List zV → zS → zR) (J : Nat → zL → List zV → zS → zR) (x0 : Int32) (s : zS) : zR :=
  let x101 : Int32 := (x0 - ((UInt32.toInt32 (Int32.toUInt32 x0 >>> (Int32.toUInt32 (1 : Int32) &&& Int32.toUInt32 31))) &&& (1431655765 : Int32)))
  let x102 : Int32 := ((x101 &&& (858993459 : Int32)) + ((UInt32.toInt32 (Int32.toUInt32 x101 >>> (Int32.toUInt32 (2 : Int32) &&& Int32.toUInt32 31))) &&& (858993459 : Int32)))
  let x103 : Int32 := ((x102 + (UInt32.toInt32 (Int32.toUInt32 x102 >>> (Int32.toUInt32 (4 : Int32) &&& Int32.toUInt32 31)))) &&& (252645135 : Int32))
  let x104 : Int32 := (x103 + (UInt32.toInt32 (Int32.toUInt32 x103 >>> (Int32.toUInt32 (8 : Int32) &&& Int32.toUInt32 31))))
  let x105 : Int32 := (x104 + (UInt32.toInt32 (Int32.toUInt32 x104 >>> (Int32.toUInt32 (16 : Int32) &&& Int32.toUInt32 31))))
  some (some (.inl (x105 &&& (63 : Int32))), s)
set_option maxRecDepth 100000 in
set_option maxHeartbeats 4000000 in
theorem bM_J_bitCount_0_e (C : Nat → List zV → zS → zR) (J : Nat → zL → List zV → zS → zR) (x0 : Int32) (s : zS) : zline skM C J zT_J_bitCount 1 500 (zT_J_bitCount.drop 0) [some (.inl x0)] [] s = bM_J_bitCount_0 C J x0 s := rfl
def bM_M_make_0 (C : Nat → List zV → zS → zR) (J : Nat → zL → List zV → zS → zR) (x1 : Int32) (x2 : Int32) (x3 : Int32) (x4 : Int32) (x5 : Int32) (s : zS) : zR :=
  zcI (C 128 [.inl x1, .inl (0 : Int32), .inl (3 : Int32)] s) fun r102 s101 =>
  if ¬ r102 = 0 then (
    zcI (C 128 [.inl x2, .inl (0 : Int32), .inl (3 : Int32)] s101) fun r104 s103 =>
    if ¬ r104 = 0 then (
      zcV (C 147 [.inr (.inr 0), .inl x3, .inl x4, .inl x5] s103) fun s105 =>
      zcI (C 148 [.inr (.inr 0), .inl x2] s105) fun r107 s106 =>
      if ¬ r107 = 0 then (
        zcI (C 145 [.inr (.inr 0), .inl x2] s106) fun r109 s108 =>
        if r109 = 0 then (
          zcI (C 126 [.inr (.inr 0), .inl (-6 : Int32)] s108) fun r111 s110 =>
          some (some (.inl r111), s110))
        else (
          zcI (C 144 [.inr (.inr 0), .inr (.inr 14), .inl (0 : Int32), .inl x2] s108) fun r113 s112 =>
          if ¬ r113 = 0 then (
            if ¬ (zg s112 0 0) = (16 : Int32) then (
              zcI (C 146 [.inr (.inr 0), .inl x1, .inl x2] s112) fun r115 s114 =>
              some (some (.inl r115), s114))
            else (
              zcI (C 126 [.inr (.inr 0), .inl (-7 : Int32)] s112) fun r117 s116 =>
              some (some (.inl r117), s116)))
          else (
            zcI (C 126 [.inr (.inr 0), .inl (-6 : Int32)] s112) fun r119 s118 =>
            some (some (.inl r119), s118))))
      else (
        zcI (C 126 [.inr (.inr 0), .inl (-1 : Int32)] s106) fun r121 s120 =>
        some (some (.inl r121), s120)))
    else (
      zcI (C 126 [.inr (.inr 0), .inl (-6 : Int32)] s103) fun r123 s122 =>
      some (some (.inl r123), s122)))
  else (
    zcI (C 126 [.inr (.inr 0), .inl (-1 : Int32)] s101) fun r125 s124 =>
    some (some (.inl r125), s124))
set_option maxRecDepth 100000 in
set_option maxHeartbeats 4000000 in
theorem bM_M_make_0_e (C : Nat → List zV → zS → zR) (J : Nat → zL → List zV → zS → zR) (x1 : Int32) (x2 : Int32) (x3 : Int32) (x4 : Int32) (x5 : Int32) (s : zS) : zline skM C J zT_M_make 1 500 (zT_M_make.drop 0) [some (.inr (.inr 0)), some (.inl x1), some (.inl x2), some (.inl x3), some (.inl x4), some (.inl x5)] [] s = bM_M_make_0 C J x1 x2 x3 x4 x5 s := rfl
def bM_M_isFit_0 (C : Nat → List zV → zS → zR) (J : Nat → zL → List zV → zS → zR) (x1 : Int32) (s : zS) : zR :=
  J 2 [some (.inr (.inr 0)), some (.inl x1), some (.inl (0 : Int32)), none] [] s
set_option maxRecDepth 100000 in
set_option maxHeartbeats 4000000 in
theorem bM_M_isFit_0_e (C : Nat → List zV → zS → zR) (J : Nat → zL → List zV → zS → zR) (x1 : Int32) (s : zS) : zline skM C J zT_M_isFit 3 500 (zT_M_isFit.drop 0) [some (.inr (.inr 0)), some (.inl x1), none, none] [] s = bM_M_isFit_0 C J x1 s := rfl
def bM_M_isFit_2 (C : Nat → List zV → zS → zR) (J : Nat → zL → List zV → zS → zR) (x1 : Int32) (x2 : Int32) (s : zS) : zR :=
  if x1 ≤ x2 then (
    zbo (1 : Int32) <|
    some (some (.inl (1 : Int32)), s))
  else (
    zin x2 3 <|
    zin (zg s 14 (Int32.toNatClampNeg x2)) 16 <|
    if ¬ (zg s 1 (Int32.toNatClampNeg (zg s 14 (Int32.toNatClampNeg x2)))) = (2 : Int32) then (
      J 18 [some (.inr (.inr 0)), some (.inl x1), some (.inl x2), some (.inl (0 : Int32))] [] s)
    else (
      zbo (0 : Int32) <|
      some (some (.inl (0 : Int32)), s)))
set_option maxRecDepth 100000 in
set_option maxHeartbeats 4000000 in
theorem bM_M_isFit_2_e (C : Nat → List zV → zS → zR) (J : Nat → zL → List zV → zS → zR) (x1 : Int32) (x2 : Int32) (s : zS) : zline skM C J zT_M_isFit 3 500 (zT_M_isFit.drop 2) [some (.inr (.inr 0)), some (.inl x1), some (.inl x2), none] [] s = bM_M_isFit_2 C J x1 x2 s := rfl
def bM_M_isFit_18 (C : Nat → List zV → zS → zR) (J : Nat → zL → List zV → zS → zR) (x1 : Int32) (x2 : Int32) (x3 : Int32) (s : zS) : zR :=
  if x2 ≤ x3 then (
    J 2 [some (.inr (.inr 0)), some (.inl x1), some (.inl (x2 + (1 : Int32))), none] [] s)
  else (
    zin x2 3 <|
    zin x3 3 <|
    if ¬ (zg s 14 (Int32.toNatClampNeg x2)) = (zg s 14 (Int32.toNatClampNeg x3)) then (
      J 18 [some (.inr (.inr 0)), some (.inl x1), some (.inl x2), some (.inl (x3 + (1 : Int32)))] [] s)
    else (
      zbo (0 : Int32) <|
      some (some (.inl (0 : Int32)), s)))
set_option maxRecDepth 100000 in
set_option maxHeartbeats 4000000 in
theorem bM_M_isFit_18_e (C : Nat → List zV → zS → zR) (J : Nat → zL → List zV → zS → zR) (x1 : Int32) (x2 : Int32) (x3 : Int32) (s : zS) : zline skM C J zT_M_isFit 3 500 (zT_M_isFit.drop 18) [some (.inr (.inr 0)), some (.inl x1), some (.inl x2), some (.inl x3)] [] s = bM_M_isFit_18 C J x1 x2 x3 s := rfl
def bM_M_newObject_0 (C : Nat → List zV → zS → zR) (J : Nat → zL → List zV → zS → zR) (x1 : Int32) (x2 : Int32) (s : zS) : zR :=
  let s101 : zS := zs s 0 0 ((zg s 0 0) + (1 : Int32))
  zin (zg s 0 0) 16 <|
  let s102 : zS := zs s101 1 (Int32.toNatClampNeg (zg s 0 0)) x1
  zin (zg s 0 0) 16 <|
  let s103 : zS := zs s102 2 (Int32.toNatClampNeg (zg s 0 0)) x2
  J 20 [some (.inr (.inr 0)), none, some (.inl x2), some (.inl (zg s 0 0)), some (.inl (0 : Int32))] [] s103
set_option maxRecDepth 100000 in
set_option maxHeartbeats 4000000 in
theorem bM_M_newObject_0_e (C : Nat → List zV → zS → zR) (J : Nat → zL → List zV → zS → zR) (x1 : Int32) (x2 : Int32) (s : zS) : zline skM C J zT_M_newObject 1 500 (zT_M_newObject.drop 0) [some (.inr (.inr 0)), some (.inl x1), some (.inl x2), none, none] [] s = bM_M_newObject_0 C J x1 x2 s := rfl
def bM_M_newObject_20 (C : Nat → List zV → zS → zR) (J : Nat → zL → List zV → zS → zR) (x2 : Int32) (x3 : Int32) (x4 : Int32) (s : zS) : zR :=
  if (3 : Int32) ≤ x4 then (
    zin x3 16 <|
    let s101 : zS := zs s 4 (Int32.toNatClampNeg x3) ((zg s 0 27) + (1 : Int32))
    zin ((16 : Int32) * x3) 256 <|
    let s102 : zS := zs s101 5 (Int32.toNatClampNeg ((16 : Int32) * x3)) x3
    J 59 [some (.inr (.inr 0)), none, none, some (.inl x3), some (.inl (0 : Int32))] [] s102)
  else (
    if x2 ≤ x4 then (
      zin (((3 : Int32) * x3) + x4) 48 <|
      let s103 : zS := zs s 3 (Int32.toNatClampNeg (((3 : Int32) * x3) + x4)) (-1 : Int32)
      J 20 [some (.inr (.inr 0)), none, some (.inl x2), some (.inl x3), some (.inl (x4 + (1 : Int32)))] [] s103)
    else (
      zin x4 3 <|
      zin (((3 : Int32) * x3) + x4) 48 <|
      let s104 : zS := zs s 3 (Int32.toNatClampNeg (((3 : Int32) * x3) + x4)) (zg s 14 (Int32.toNatClampNeg x4))
      J 20 [some (.inr (.inr 0)), none, some (.inl x2), some (.inl x3), some (.inl (x4 + (1 : Int32)))] [] s104))
set_option maxRecDepth 100000 in
set_option maxHeartbeats 4000000 in
theorem bM_M_newObject_20_e (C : Nat → List zV → zS → zR) (J : Nat → zL → List zV → zS → zR) (x2 : Int32) (x3 : Int32) (x4 : Int32) (s : zS) : zline skM C J zT_M_newObject 1 500 (zT_M_newObject.drop 20) [some (.inr (.inr 0)), none, some (.inl x2), some (.inl x3), some (.inl x4)] [] s = bM_M_newObject_20 C J x2 x3 x4 s := rfl
def bM_M_newObject_59 (C : Nat → List zV → zS → zR) (J : Nat → zL → List zV → zS → zR) (x3 : Int32) (x4 : Int32) (s : zS) : zR :=
  if (zg s 0 27) ≤ x4 then (
    zin x3 16 <|
    let s101 : zS := zs s 6 (Int32.toNatClampNeg x3) (0 : Int32)
    zin x3 16 <|
    let s102 : zS := zs s101 7 (Int32.toNatClampNeg x3) (0 : Int32)
    some (some (.inl x3), s102))
  else (
    zin x4 17 <|
    zin ((((16 : Int32) * x3) + (1 : Int32)) + x4) 256 <|
    let s103 : zS := zs s 5 (Int32.toNatClampNeg ((((16 : Int32) * x3) + (1 : Int32)) + x4)) (zg s 19 (Int32.toNatClampNeg x4))
    J 59 [some (.inr (.inr 0)), none, none, some (.inl x3), some (.inl (x4 + (1 : Int32)))] [] s103)
set_option maxRecDepth 100000 in
set_option maxHeartbeats 4000000 in
theorem bM_M_newObject_59_e (C : Nat → List zV → zS → zR) (J : Nat → zL → List zV → zS → zR) (x3 : Int32) (x4 : Int32) (s : zS) : zline skM C J zT_M_newObject 1 500 (zT_M_newObject.drop 59) [some (.inr (.inr 0)), none, none, some (.inl x3), some (.inl x4)] [] s = bM_M_newObject_59 C J x3 x4 s := rfl
def bM_M_areThere_0 (C : Nat → List zV → zS → zR) (J : Nat → zL → List zV → zS → zR) (x1 : Int32) (s : zS) : zR :=
  J 2 [some (.inr (.inr 0)), some (.inl x1), some (.inl (0 : Int32))] [] s
set_option maxRecDepth 100000 in
set_option maxHeartbeats 4000000 in
theorem bM_M_areThere_0_e (C : Nat → List zV → zS → zR) (J : Nat → zL → List zV → zS → zR) (x1 : Int32) (s : zS) : zline skM C J zT_M_areThere 3 500 (zT_M_areThere.drop 0) [some (.inr (.inr 0)), some (.inl x1), none] [] s = bM_M_areThere_0 C J x1 s := rfl
def bM_M_areThere_2 (C : Nat → List zV → zS → zR) (J : Nat → zL → List zV → zS → zR) (x1 : Int32) (x2 : Int32) (s : zS) : zR :=
  if x1 ≤ x2 then (
    zbo (1 : Int32) <|
    some (some (.inl (1 : Int32)), s))
  else (
    zin x2 3 <|
    zcI (C 129 [.inr (.inr 0), .inl (zg s 14 (Int32.toNatClampNeg x2))] s) fun r102 s101 =>
    if ¬ r102 = 0 then (
      J 2 [some (.inr (.inr 0)), some (.inl x1), some (.inl (x2 + (1 : Int32)))] [] s101)
    else (
      zbo (0 : Int32) <|
      some (some (.inl (0 : Int32)), s101)))
set_option maxRecDepth 100000 in
set_option maxHeartbeats 4000000 in
theorem bM_M_areThere_2_e (C : Nat → List zV → zS → zR) (J : Nat → zL → List zV → zS → zR) (x1 : Int32) (x2 : Int32) (s : zS) : zline skM C J zT_M_areThere 3 500 (zT_M_areThere.drop 2) [some (.inr (.inr 0)), some (.inl x1), some (.inl x2)] [] s = bM_M_areThere_2 C J x1 x2 s := rfl
def bM_M_merges_0 (C : Nat → List zV → zS → zR) (J : Nat → zL → List zV → zS → zR) (x2 : Int32) (x3 : Int32) (s : zS) : zR :=
  J 4 [some (.inr (.inr 0)), some (.inr (.inr 14)), some (.inl x2), some (.inl x3), some (.inl x3), some (.inl (0 : Int32)), none] [] s
set_option maxRecDepth 100000 in
set_option maxHeartbeats 4000000 in
theorem bM_M_merges_0_e (C : Nat → List zV → zS → zR) (J : Nat → zL → List zV → zS → zR) (x2 : Int32) (x3 : Int32) (s : zS) : zline skM C J zT_M_merges 3 500 (zT_M_merges.drop 0) [some (.inr (.inr 0)), some (.inr (.inr 14)), some (.inl x2), some (.inl x3), none, none, none] [] s = bM_M_merges_0 C J x2 x3 s := rfl
def bM_M_merges_4 (C : Nat → List zV → zS → zR) (J : Nat → zL → List zV → zS → zR) (x2 : Int32) (x3 : Int32) (x4 : Int32) (x5 : Int32) (s : zS) : zR :=
  if x3 ≤ x5 then (
    zcV (C 141 [.inr (.inr 0), .inl x3, .inr (.inr 14), .inl x2, .inl x3] s) fun s101 =>
    let s102 : zS := zs s101 0 27 (0 : Int32)
    J 49 [some (.inr (.inr 0)), none, none, some (.inl x3), some (.inl x4), none, none] [] s102)
  else (
    zin (x2 + x5) 3 <|
    zin (x2 + x5) 3 <|
    zin (zg s 14 (Int32.toNatClampNeg (x2 + x5))) 16 <|
    zcV (C 141 [.inr (.inr 0), .inl x5, .inr (.inr 5), .inl ((16 : Int32) * (zg s 14 (Int32.toNatClampNeg (x2 + x5)))), .inl (zg s 4 (Int32.toNatClampNeg (zg s 14 (Int32.toNatClampNeg (x2 + x5)))))] s) fun s103 =>
    zin (x2 + x5) 3 <|
    zin (zg s103 14 (Int32.toNatClampNeg (x2 + x5))) 16 <|
    let x104 : Int32 := (x4 + (zg s103 4 (Int32.toNatClampNeg (zg s103 14 (Int32.toNatClampNeg (x2 + x5))))))
    J 4 [some (.inr (.inr 0)), some (.inr (.inr 14)), some (.inl x2), some (.inl x3), some (.inl x104), some (.inl (x5 + (1 : Int32))), none] [] s103)
set_option maxRecDepth 100000 in
set_option maxHeartbeats 4000000 in
theorem bM_M_merges_4_e (C : Nat → List zV → zS → zR) (J : Nat → zL → List zV → zS → zR) (x2 : Int32) (x3 : Int32) (x4 : Int32) (x5 : Int32) (s : zS) : zline skM C J zT_M_merges 3 500 (zT_M_merges.drop 4) [some (.inr (.inr 0)), some (.inr (.inr 14)), some (.inl x2), some (.inl x3), some (.inl x4), some (.inl x5), none] [] s = bM_M_merges_4 C J x2 x3 x4 x5 s := rfl
def bM_M_merges_49 (C : Nat → List zV → zS → zR) (J : Nat → zL → List zV → zS → zR) (x3 : Int32) (x4 : Int32) (s : zS) : zR :=
  if x4 ≤ 0 then (
    zbo (1 : Int32) <|
    some (some (.inl (1 : Int32)), s))
  else (
    zcI (C 143 [.inr (.inr 0), .inl (x3 + (1 : Int32))] s) fun r102 s101 =>
    if ¬ r102 = (-1 : Int32) then (
      zin (zg s101 0 27) 17 <|
      let s103 : zS := zs s101 19 (Int32.toNatClampNeg (zg s101 0 27)) r102
      let s104 : zS := zs s103 0 27 ((zg s101 0 27) + (1 : Int32))
      J 76 [some (.inr (.inr 0)), none, none, some (.inl x3), some (.inl x4), some (.inl r102), some (.inl (0 : Int32))] [] s104)
    else (
      zbo (0 : Int32) <|
      some (some (.inl (0 : Int32)), s101)))
set_option maxRecDepth 100000 in
set_option maxHeartbeats 4000000 in
theorem bM_M_merges_49_e (C : Nat → List zV → zS → zR) (J : Nat → zL → List zV → zS → zR) (x3 : Int32) (x4 : Int32) (s : zS) : zline skM C J zT_M_merges 3 500 (zT_M_merges.drop 49) [some (.inr (.inr 0)), none, none, some (.inl x3), some (.inl x4), none, none] [] s = bM_M_merges_49 C J x3 x4 s := rfl
def bM_M_merges_76 (C : Nat → List zV → zS → zR) (J : Nat → zL → List zV → zS → zR) (x3 : Int32) (x4 : Int32) (x5 : Int32) (x6 : Int32) (s : zS) : zR :=
  if x3 < x6 then (
    J 49 [some (.inr (.inr 0)), none, none, some (.inl x3), some (.inl x4), none, none] [] s)
  else (
    zin x6 4 <|
    zin x6 4 <|
    if (zg s 17 (Int32.toNatClampNeg x6)) = (zg s 18 (Int32.toNatClampNeg x6)) then (
      J 76 [some (.inr (.inr 0)), none, none, some (.inl x3), some (.inl x4), some (.inl x5), some (.inl (x6 + (1 : Int32)))] [] s)
    else (
      zin x6 4 <|
      zin (((17 : Int32) * x6) + (zg s 17 (Int32.toNatClampNeg x6))) 68 <|
      if (zg s 16 (Int32.toNatClampNeg (((17 : Int32) * x6) + (zg s 17 (Int32.toNatClampNeg x6))))) = x5 then (
        zin x6 4 <|
        zin x6 4 <|
        let s101 : zS := zs s 17 (Int32.toNatClampNeg x6) ((zg s 17 (Int32.toNatClampNeg x6)) + (1 : Int32))
        J 76 [some (.inr (.inr 0)), none, none, some (.inl x3), some (.inl (x4 + (-1 : Int32))), some (.inl x5), some (.inl (x6 + (1 : Int32)))] [] s101)
      else (
        J 76 [some (.inr (.inr 0)), none, none, some (.inl x3), some (.inl x4), some (.inl x5), some (.inl (x6 + (1 : Int32)))] [] s)))
set_option maxRecDepth 100000 in
set_option maxHeartbeats 4000000 in
theorem bM_M_merges_76_e (C : Nat → List zV → zS → zR) (J : Nat → zL → List zV → zS → zR) (x3 : Int32) (x4 : Int32) (x5 : Int32) (x6 : Int32) (s : zS) : zline skM C J zT_M_merges 3 500 (zT_M_merges.drop 76) [some (.inr (.inr 0)), none, none, some (.inl x3), some (.inl x4), some (.inl x5), some (.inl x6)] [] s = bM_M_merges_76 C J x3 x4 x5 x6 s := rfl
def bM_M_next_0 (C : Nat → List zV → zS → zR) (J : Nat → zL → List zV → zS → zR) (x1 : Int32) (s : zS) : zR :=
  J 2 [some (.inr (.inr 0)), some (.inl x1), some (.inl (0 : Int32))] [] s
set_option maxRecDepth 100000 in
set_option maxHeartbeats 4000000 in
theorem bM_M_next_0_e (C : Nat → List zV → zS → zR) (J : Nat → zL → List zV → zS → zR) (x1 : Int32) (s : zS) : zline skM C J zT_M_next 1 500 (zT_M_next.drop 0) [some (.inr (.inr 0)), some (.inl x1), none] [] s = bM_M_next_0 C J x1 s := rfl
def bM_M_next_2 (C : Nat → List zV → zS → zR) (J : Nat → zL → List zV → zS → zR) (x1 : Int32) (x2 : Int32) (s : zS) : zR :=
  if x1 ≤ x2 then (
    some (some (.inl (-1 : Int32)), s))
  else (
    zin x2 4 <|
    zin x2 4 <|
    if (zg s 18 (Int32.toNatClampNeg x2)) ≤ (zg s 17 (Int32.toNatClampNeg x2)) then (
      J 2 [some (.inr (.inr 0)), some (.inl x1), some (.inl (x2 + (1 : Int32)))] [] s)
    else (
      zin x2 4 <|
      zin (((17 : Int32) * x2) + (zg s 17 (Int32.toNatClampNeg x2))) 68 <|
      zcI (C 142 [.inr (.inr 0), .inl (zg s 16 (Int32.toNatClampNeg (((17 : Int32) * x2) + (zg s 17 (Int32.toNatClampNeg x2))))), .inl x1] s) fun r102 s101 =>
      if ¬ r102 = 0 then (
        J 2 [some (.inr (.inr 0)), some (.inl x1), some (.inl (x2 + (1 : Int32)))] [] s101)
      else (
        zin x2 4 <|
        zin (((17 : Int32) * x2) + (zg s101 17 (Int32.toNatClampNeg x2))) 68 <|
        some (some (.inl (zg s101 16 (Int32.toNatClampNeg (((17 : Int32) * x2) + (zg s101 17 (Int32.toNatClampNeg x2)))))), s101))))
set_option maxRecDepth 100000 in
set_option maxHeartbeats 4000000 in
theorem bM_M_next_2_e (C : Nat → List zV → zS → zR) (J : Nat → zL → List zV → zS → zR) (x1 : Int32) (x2 : Int32) (s : zS) : zline skM C J zT_M_next 1 500 (zT_M_next.drop 2) [some (.inr (.inr 0)), some (.inl x1), some (.inl x2)] [] s = bM_M_next_2 C J x1 x2 s := rfl
def bM_M_isBehind_0 (C : Nat → List zV → zS → zR) (J : Nat → zL → List zV → zS → zR) (x1 : Int32) (x2 : Int32) (s : zS) : zR :=
  J 2 [some (.inr (.inr 0)), some (.inl x1), some (.inl x2), some (.inl (0 : Int32)), none] [] s
set_option maxRecDepth 100000 in
set_option maxHeartbeats 4000000 in
theorem bM_M_isBehind_0_e (C : Nat → List zV → zS → zR) (J : Nat → zL → List zV → zS → zR) (x1 : Int32) (x2 : Int32) (s : zS) : zline skM C J zT_M_isBehind 3 500 (zT_M_isBehind.drop 0) [some (.inr (.inr 0)), some (.inl x1), some (.inl x2), none, none] [] s = bM_M_isBehind_0 C J x1 x2 s := rfl
def bM_M_isBehind_2 (C : Nat → List zV → zS → zR) (J : Nat → zL → List zV → zS → zR) (x1 : Int32) (x2 : Int32) (x3 : Int32) (s : zS) : zR :=
  if x2 ≤ x3 then (
    zbo (0 : Int32) <|
    some (some (.inl (0 : Int32)), s))
  else (
    zin x3 4 <|
    let x101 : Int32 := ((zg s 17 (Int32.toNatClampNeg x3)) + (1 : Int32))
    J 12 [some (.inr (.inr 0)), some (.inl x1), some (.inl x2), some (.inl x3), some (.inl x101)] [] s)
set_option maxRecDepth 100000 in
set_option maxHeartbeats 4000000 in
theorem bM_M_isBehind_2_e (C : Nat → List zV → zS → zR) (J : Nat → zL → List zV → zS → zR) (x1 : Int32) (x2 : Int32) (x3 : Int32) (s : zS) : zline skM C J zT_M_isBehind 3 500 (zT_M_isBehind.drop 2) [some (.inr (.inr 0)), some (.inl x1), some (.inl x2), some (.inl x3), none] [] s = bM_M_isBehind_2 C J x1 x2 x3 s := rfl
def bM_M_isBehind_12 (C : Nat → List zV → zS → zR) (J : Nat → zL → List zV → zS → zR) (x1 : Int32) (x2 : Int32) (x3 : Int32) (x4 : Int32) (s : zS) : zR :=
  zin x3 4 <|
  if (zg s 18 (Int32.toNatClampNeg x3)) ≤ x4 then (
    J 2 [some (.inr (.inr 0)), some (.inl x1), some (.inl x2), some (.inl (x3 + (1 : Int32))), none] [] s)
  else (
    zin (((17 : Int32) * x3) + x4) 68 <|
    if ¬ (zg s 16 (Int32.toNatClampNeg (((17 : Int32) * x3) + x4))) = x1 then (
      J 12 [some (.inr (.inr 0)), some (.inl x1), some (.inl x2), some (.inl x3), some (.inl (x4 + (1 : Int32)))] [] s)
    else (
      zbo (1 : Int32) <|
      some (some (.inl (1 : Int32)), s)))
set_option maxRecDepth 100000 in
set_option maxHeartbeats 4000000 in
theorem bM_M_isBehind_12_e (C : Nat → List zV → zS → zR) (J : Nat → zL → List zV → zS → zR) (x1 : Int32) (x2 : Int32) (x3 : Int32) (x4 : Int32) (s : zS) : zline skM C J zT_M_isBehind 3 500 (zT_M_isBehind.drop 12) [some (.inr (.inr 0)), some (.inl x1), some (.inl x2), some (.inl x3), some (.inl x4)] [] s = bM_M_isBehind_12 C J x1 x2 x3 x4 s := rfl
def bM_M_lays_0 (C : Nat → List zV → zS → zR) (J : Nat → zL → List zV → zS → zR) (x1 : Int32) (x3 : Int32) (x4 : Int32) (s : zS) : zR :=
  zin x1 4 <|
  let s101 : zS := zs s 17 (Int32.toNatClampNeg x1) (0 : Int32)
  zin x1 4 <|
  let s102 : zS := zs s101 18 (Int32.toNatClampNeg x1) x4
  J 12 [some (.inr (.inr 0)), some (.inl x1), some (.inr (.inr 14)), some (.inl x3), some (.inl x4), some (.inl (0 : Int32))] [] s102
set_option maxRecDepth 100000 in
set_option maxHeartbeats 4000000 in
theorem bM_M_lays_0_e (C : Nat → List zV → zS → zR) (J : Nat → zL → List zV → zS → zR) (x1 : Int32) (x3 : Int32) (x4 : Int32) (s : zS) : zline skM C J zT_M_lays 0 500 (zT_M_lays.drop 0) [some (.inr (.inr 0)), some (.inl x1), some (.inr (.inr 14)), some (.inl x3), some (.inl x4), none] [] s = bM_M_lays_0 C J x1 x3 x4 s := rfl
def bM_M_lays_12 (C : Nat → List zV → zS → zR) (J : Nat → zL → List zV → zS → zR) (x1 : Int32) (x3 : Int32) (x4 : Int32) (x5 : Int32) (s : zS) : zR :=
  if x4 ≤ x5 then (
    some (none, s))
  else (
    zin (x3 + x5) 3 <|
    zin (((17 : Int32) * x1) + x5) 68 <|
    let s101 : zS := zs s 16 (Int32.toNatClampNeg (((17 : Int32) * x1) + x5)) (zg s 14 (Int32.toNatClampNeg (x3 + x5)))
    J 12 [some (.inr (.inr 0)), some (.inl x1), some (.inr (.inr 14)), some (.inl x3), some (.inl x4), some (.inl (x5 + (1 : Int32)))] [] s101)
set_option maxRecDepth 100000 in
set_option maxHeartbeats 4000000 in
theorem bM_M_lays_12_e (C : Nat → List zV → zS → zR) (J : Nat → zL → List zV → zS → zR) (x1 : Int32) (x3 : Int32) (x4 : Int32) (x5 : Int32) (s : zS) : zline skM C J zT_M_lays 0 500 (zT_M_lays.drop 12) [some (.inr (.inr 0)), some (.inl x1), some (.inr (.inr 14)), some (.inl x3), some (.inl x4), some (.inl x5)] [] s = bM_M_lays_12 C J x1 x3 x4 x5 s := rfl
def bM_M_lays_0_5_0 (C : Nat → List zV → zS → zR) (J : Nat → zL → List zV → zS → zR) (x1 : Int32) (x3 : Int32) (x4 : Int32) (s : zS) : zR :=
  zin x1 4 <|
  let s101 : zS := zs s 17 (Int32.toNatClampNeg x1) (0 : Int32)
  zin x1 4 <|
  let s102 : zS := zs s101 18 (Int32.toNatClampNeg x1) x4
  J 12 [some (.inr (.inr 0)), some (.inl x1), some (.inr (.inr 5)), some (.inl x3), some (.inl x4), some (.inl (0 : Int32))] [] s102
set_option maxRecDepth 100000 in
set_option maxHeartbeats 4000000 in
theorem bM_M_lays_0_5_0_e (C : Nat → List zV → zS → zR) (J : Nat → zL → List zV → zS → zR) (x1 : Int32) (x3 : Int32) (x4 : Int32) (s : zS) : zline skM C J zT_M_lays 0 500 (zT_M_lays.drop 0) [some (.inr (.inr 0)), some (.inl x1), some (.inr (.inr 5)), some (.inl x3), some (.inl x4), none] [] s = bM_M_lays_0_5_0 C J x1 x3 x4 s := rfl
def bM_M_lays_0_5_12 (C : Nat → List zV → zS → zR) (J : Nat → zL → List zV → zS → zR) (x1 : Int32) (x3 : Int32) (x4 : Int32) (x5 : Int32) (s : zS) : zR :=
  if x4 ≤ x5 then (
    some (none, s))
  else (
    zin (x3 + x5) 256 <|
    zin (((17 : Int32) * x1) + x5) 68 <|
    let s101 : zS := zs s 16 (Int32.toNatClampNeg (((17 : Int32) * x1) + x5)) (zg s 5 (Int32.toNatClampNeg (x3 + x5)))
    J 12 [some (.inr (.inr 0)), some (.inl x1), some (.inr (.inr 5)), some (.inl x3), some (.inl x4), some (.inl (x5 + (1 : Int32)))] [] s101)
set_option maxRecDepth 100000 in
set_option maxHeartbeats 4000000 in
theorem bM_M_lays_0_5_12_e (C : Nat → List zV → zS → zR) (J : Nat → zL → List zV → zS → zR) (x1 : Int32) (x3 : Int32) (x4 : Int32) (x5 : Int32) (s : zS) : zline skM C J zT_M_lays 0 500 (zT_M_lays.drop 12) [some (.inr (.inr 0)), some (.inl x1), some (.inr (.inr 5)), some (.inl x3), some (.inl x4), some (.inl x5)] [] s = bM_M_lays_0_5_12 C J x1 x3 x4 x5 s := rfl
def bM_M_tells_0 (C : Nat → List zV → zS → zR) (J : Nat → zL → List zV → zS → zR) (x1 : Int32) (x2 : Int32) (x3 : Int32) (s : zS) : zR :=
  let s101 : zS := zs s 14 0 x1
  let s102 : zS := zs s101 14 1 x2
  let s103 : zS := zs s102 14 2 x3
  some (none, s103)
set_option maxRecDepth 100000 in
set_option maxHeartbeats 4000000 in
theorem bM_M_tells_0_e (C : Nat → List zV → zS → zR) (J : Nat → zL → List zV → zS → zR) (x1 : Int32) (x2 : Int32) (x3 : Int32) (s : zS) : zline skM C J zT_M_tells 0 500 (zT_M_tells.drop 0) [some (.inr (.inr 0)), some (.inl x1), some (.inl x2), some (.inl x3)] [] s = bM_M_tells_0 C J x1 x2 x3 s := rfl
def bM_M_wouldBe_0 (C : Nat → List zV → zS → zR) (J : Nat → zL → List zV → zS → zR) (x1 : Int32) (x2 : Int32) (x3 : Int32) (x4 : Int32) (x5 : Int32) (s : zS) : zR :=
  zcI (C 128 [.inl x1, .inl (0 : Int32), .inl (3 : Int32)] s) fun r102 s101 =>
  if ¬ r102 = 0 then (
    zcV (C 147 [.inr (.inr 0), .inl x2, .inl x3, .inl x4] s101) fun s103 =>
    zcI (C 148 [.inr (.inr 0), .inl x1] s103) fun r105 s104 =>
    if ¬ r105 = 0 then (
      zcI (C 145 [.inr (.inr 0), .inl x1] s104) fun r107 s106 =>
      if ¬ r107 = 0 then (
        zcI (C 144 [.inr (.inr 0), .inr (.inr 14), .inl (0 : Int32), .inl x1] s106) fun r109 s108 =>
        if ¬ r109 = 0 then (
          if ¬ x5 = (-1 : Int32) then (
            zcI (C 128 [.inl x5, .inl (0 : Int32), .inl ((zg s108 0 27) - (1 : Int32))] s108) fun r111 s110 =>
            if r111 = 0 then (
              some (some (.inl (-1 : Int32)), s110))
            else (
              zin x5 17 <|
              some (some (.inl (zg s110 19 (Int32.toNatClampNeg x5))), s110)))
          else (
            some (some (.inl (zg s108 0 27)), s108)))
        else (
          some (some (.inl (99 : Int32)), s108)))
      else (
        zcI (C 127 [.inr (.inr 0), .inl (-6 : Int32)] s106) fun r113 s112 =>
        some (some (.inl r113), s112)))
    else (
      zcI (C 127 [.inr (.inr 0), .inl (-1 : Int32)] s104) fun r115 s114 =>
      some (some (.inl r115), s114)))
  else (
    zcI (C 127 [.inr (.inr 0), .inl (-6 : Int32)] s101) fun r117 s116 =>
    some (some (.inl r117), s116))
set_option maxRecDepth 100000 in
set_option maxHeartbeats 4000000 in
theorem bM_M_wouldBe_0_e (C : Nat → List zV → zS → zR) (J : Nat → zL → List zV → zS → zR) (x1 : Int32) (x2 : Int32) (x3 : Int32) (x4 : Int32) (x5 : Int32) (s : zS) : zline skM C J zT_M_wouldBe 1 500 (zT_M_wouldBe.drop 0) [some (.inr (.inr 0)), some (.inl x1), some (.inl x2), some (.inl x3), some (.inl x4), some (.inl x5)] [] s = bM_M_wouldBe_0 C J x1 x2 x3 x4 x5 s := rfl
def bM_M_no10_0 (C : Nat → List zV → zS → zR) (J : Nat → zL → List zV → zS → zR) (x1 : Int32) (s : zS) : zR :=
  zcI (C 126 [.inr (.inr 0), .inl x1] s) fun r102 s101 =>
  some (some (.inl (r102 - (10 : Int32))), s101)
set_option maxRecDepth 100000 in
set_option maxHeartbeats 4000000 in
theorem bM_M_no10_0_e (C : Nat → List zV → zS → zR) (J : Nat → zL → List zV → zS → zR) (x1 : Int32) (s : zS) : zline skM C J zT_M_no10 1 500 (zT_M_no10.drop 0) [some (.inr (.inr 0)), some (.inl x1)] [] s = bM_M_no10_0 C J x1 s := rfl
def bM_M_read_0 (C : Nat → List zV → zS → zR) (J : Nat → zL → List zV → zS → zR) (x1 : Int32) (s : zS) : zR :=
  zcI (C 134 [.inr (.inr 0), .inl x1] s) fun r102 s101 =>
  if 0 ≤ r102 then (
    let s103 : zS := zs s101 0 17 x1
    let s104 : zS := zs s103 0 18 (0 : Int32)
    zcI (C 159 [.inr (.inr 0)] s104) fun r106 s105 =>
    J 22 [some (.inr (.inr 0)), some (.inl x1), none, some (.inl (zg s101 0 0)), some (.inl r106)] [] s105)
  else (
    zcI (C 126 [.inr (.inr 0), .inl r102] s101) fun r108 s107 =>
    some (some (.inl r108), s107))
set_option maxRecDepth 100000 in
set_option maxHeartbeats 4000000 in
theorem bM_M_read_0_e (C : Nat → List zV → zS → zR) (J : Nat → zL → List zV → zS → zR) (x1 : Int32) (s : zS) : zline skM C J zT_M_read 1 500 (zT_M_read.drop 0) [some (.inr (.inr 0)), some (.inl x1), none, none, none] [] s = bM_M_read_0 C J x1 s := rfl
def bM_M_read_22 (C : Nat → List zV → zS → zR) (J : Nat → zL → List zV → zS → zR) (x1 : Int32) (x3 : Int32) (x4 : Int32) (s : zS) : zR :=
  if x4 = 0 then (
    J 32 [some (.inr (.inr 0)), some (.inl x1), none, some (.inl x3), some (.inl x4)] [] s)
  else (
    zcI (C 152 [.inr (.inr 0), .inl (59 : Int32)] s) fun r102 s101 =>
    if r102 = 0 then (
      J 32 [some (.inr (.inr 0)), some (.inl x1), none, some (.inl x3), some (.inl x4)] [] s101)
    else (
      zcI (C 159 [.inr (.inr 0)] s101) fun r104 s103 =>
      J 22 [some (.inr (.inr 0)), some (.inl x1), none, some (.inl x3), some (.inl r104)] [] s103))
set_option maxRecDepth 100000 in
set_option maxHeartbeats 4000000 in
theorem bM_M_read_22_e (C : Nat → List zV → zS → zR) (J : Nat → zL → List zV → zS → zR) (x1 : Int32) (x3 : Int32) (x4 : Int32) (s : zS) : zline skM C J zT_M_read 1 500 (zT_M_read.drop 22) [some (.inr (.inr 0)), some (.inl x1), none, some (.inl x3), some (.inl x4)] [] s = bM_M_read_22 C J x1 x3 x4 s := rfl
def bM_M_read_32 (C : Nat → List zV → zS → zR) (J : Nat → zL → List zV → zS → zR) (x1 : Int32) (x3 : Int32) (x4 : Int32) (s : zS) : zR :=
  if x4 = 0 then (
    if (0 : Int32) = 0 then (
      let s101 : zS := zs s 0 16 (zg s 0 18)
      if (0 : Int32) = 0 then (
        let s102 : zS := zs s101 0 0 x3
        zcI (C 126 [.inr (.inr 0), .inl (-6 : Int32)] s102) fun r104 s103 =>
        some (some (.inl r104), s103))
      else (
        some (some (.inl ((zg s 0 0) - x3)), s101)))
    else (
      let s105 : zS := zs s 0 16 (-1 : Int32)
      if (0 : Int32) = 0 then (
        let s106 : zS := zs s105 0 0 x3
        zcI (C 126 [.inr (.inr 0), .inl (-6 : Int32)] s106) fun r108 s107 =>
        some (some (.inl r108), s107))
      else (
        some (some (.inl ((zg s 0 0) - x3)), s105))))
  else (
    zin x1 8 <|
    if ¬ (zg s 0 18) = (zg s 12 (Int32.toNatClampNeg x1)) then (
      if (0 : Int32) = 0 then (
        let s109 : zS := zs s 0 16 (zg s 0 18)
        if (0 : Int32) = 0 then (
          let s110 : zS := zs s109 0 0 x3
          zcI (C 126 [.inr (.inr 0), .inl (-6 : Int32)] s110) fun r112 s111 =>
          some (some (.inl r112), s111))
        else (
          some (some (.inl ((zg s 0 0) - x3)), s109)))
      else (
        let s113 : zS := zs s 0 16 (-1 : Int32)
        if (0 : Int32) = 0 then (
          let s114 : zS := zs s113 0 0 x3
          zcI (C 126 [.inr (.inr 0), .inl (-6 : Int32)] s114) fun r116 s115 =>
          some (some (.inl r116), s115))
        else (
          some (some (.inl ((zg s 0 0) - x3)), s113))))
    else (
      if (1 : Int32) = 0 then (
        let s117 : zS := zs s 0 16 (zg s 0 18)
        if (1 : Int32) = 0 then (
          let s118 : zS := zs s117 0 0 x3
          zcI (C 126 [.inr (.inr 0), .inl (-6 : Int32)] s118) fun r120 s119 =>
          some (some (.inl r120), s119))
        else (
          some (some (.inl ((zg s 0 0) - x3)), s117)))
      else (
        let s121 : zS := zs s 0 16 (-1 : Int32)
        if (1 : Int32) = 0 then (
          let s122 : zS := zs s121 0 0 x3
          zcI (C 126 [.inr (.inr 0), .inl (-6 : Int32)] s122) fun r124 s123 =>
          some (some (.inl r124), s123))
        else (
          some (some (.inl ((zg s 0 0) - x3)), s121)))))
set_option maxRecDepth 100000 in
set_option maxHeartbeats 4000000 in
theorem bM_M_read_32_e (C : Nat → List zV → zS → zR) (J : Nat → zL → List zV → zS → zR) (x1 : Int32) (x3 : Int32) (x4 : Int32) (s : zS) : zline skM C J zT_M_read 1 500 (zT_M_read.drop 32) [some (.inr (.inr 0)), some (.inl x1), none, some (.inl x3), some (.inl x4)] [] s = bM_M_read_32 C J x1 x3 x4 s := rfl
def bM_M_is_0 (C : Nat → List zV → zS → zR) (J : Nat → zL → List zV → zS → zR) (x1 : Int32) (s : zS) : zR :=
  zcI (C 151 [.inr (.inr 0)] s) fun r102 s101 =>
  if r102 = x1 then (
    let s103 : zS := zs s101 0 18 ((zg s101 0 18) + (1 : Int32))
    zbo (1 : Int32) <|
    some (some (.inl (1 : Int32)), s103))
  else (
    zbo (0 : Int32) <|
    some (some (.inl (0 : Int32)), s101))
set_option maxRecDepth 100000 in
set_option maxHeartbeats 4000000 in
theorem bM_M_is_0_e (C : Nat → List zV → zS → zR) (J : Nat → zL → List zV → zS → zR) (x1 : Int32) (s : zS) : zline skM C J zT_M_is 3 500 (zT_M_is.drop 0) [some (.inr (.inr 0)), some (.inl x1)] [] s = bM_M_is_0 C J x1 s := rfl
def bM_M_sign_0 (C : Nat → List zV → zS → zR) (J : Nat → zL → List zV → zS → zR) (s : zS) : zR :=
  zin (zg s 0 17) 8 <|
  if (zg s 12 (Int32.toNatClampNeg (zg s 0 17))) ≤ (zg s 0 18) then (
    some (some (.inl (-1 : Int32)), s))
  else (
    zin (((160 : Int32) * (zg s 0 17)) + (zg s 0 18)) 1280 <|
    some (some (.inl (Int64.toInt32 (zgl s 13 (Int32.toNatClampNeg (((160 : Int32) * (zg s 0 17)) + (zg s 0 18)))))), s))
set_option maxRecDepth 100000 in
set_option maxHeartbeats 4000000 in
theorem bM_M_sign_0_e (C : Nat → List zV → zS → zR) (J : Nat → zL → List zV → zS → zR) (s : zS) : zline skM C J zT_M_sign 1 500 (zT_M_sign.drop 0) [some (.inr (.inr 0))] [] s = bM_M_sign_0 C J s := rfl
def bM_M_item_0 (C : Nat → List zV → zS → zR) (J : Nat → zL → List zV → zS → zR) (s : zS) : zR :=
  zcI (C 152 [.inr (.inr 0), .inl (110 : Int32)] s) fun r102 s101 =>
  if r102 = 0 then (
    zbo (0 : Int32) <|
    some (some (.inl (0 : Int32)), s101))
  else (
    zcI (C 152 [.inr (.inr 0), .inl (101 : Int32)] s101) fun r104 s103 =>
    if r104 = 0 then (
      zbo (0 : Int32) <|
      some (some (.inl (0 : Int32)), s103))
    else (
      zcI (C 152 [.inr (.inr 0), .inl (119 : Int32)] s103) fun r106 s105 =>
      if r106 = 0 then (
        zbo (0 : Int32) <|
        some (some (.inl (0 : Int32)), s105))
      else (
        zcI (C 152 [.inr (.inr 0), .inl (32 : Int32)] s105) fun r108 s107 =>
        if r108 = 0 then (
          zbo (0 : Int32) <|
          some (some (.inl (0 : Int32)), s107))
        else (
          zcI (C 155 [.inr (.inr 0), .inl (3 : Int32)] s107) fun r110 s109 =>
          if ¬ r110 = 0 then (
            zcI (C 152 [.inr (.inr 0), .inl (60 : Int32)] s109) fun r112 s111 =>
            if r112 = 0 then (
              if (zg s111 0 0) = (16 : Int32) then (
                let s113 : zS := zs s111 0 18 (zg s 0 18)
                zbo (0 : Int32) <|
                some (some (.inl (0 : Int32)), s113))
              else (
                zcI (C 144 [.inr (.inr 0), .inr (.inr 14), .inl (0 : Int32), .inl (0 : Int32)] s111) fun r115 s114 =>
                if ¬ r115 = 0 then (
                  zcI (C 146 [.inr (.inr 0), .inl (zg s109 0 19), .inl (0 : Int32)] s114) fun r117 s116 =>
                  zcI (C 158 [.inr (.inr 0), .inl r117] s116) fun r119 s118 =>
                  zbo r119 <|
                  some (some (.inl r119), s118))
                else (
                  let s120 : zS := zs s114 0 18 (zg s 0 18)
                  zbo (0 : Int32) <|
                  some (some (.inl (0 : Int32)), s120))))
            else (
              J 36 [some (.inr (.inr 0)), some (.inl (zg s 0 18)), some (.inl (zg s109 0 19)), some (.inl (0 : Int32)), some (.inl (1 : Int32))] [] s111))
          else (
            zbo (0 : Int32) <|
            some (some (.inl (0 : Int32)), s109))))))
set_option maxRecDepth 100000 in
set_option maxHeartbeats 4000000 in
theorem bM_M_item_0_e (C : Nat → List zV → zS → zR) (J : Nat → zL → List zV → zS → zR) (s : zS) : zline skM C J zT_M_item 3 500 (zT_M_item.drop 0) [some (.inr (.inr 0)), none, none, none, none] [] s = bM_M_item_0 C J s := rfl
def bM_M_item_36 (C : Nat → List zV → zS → zR) (J : Nat → zL → List zV → zS → zR) (x1 : Int32) (x2 : Int32) (x3 : Int32) (x4 : Int32) (s : zS) : zR :=
  if x4 = 0 then (
    zcI (C 151 [.inr (.inr 0)] s) fun r102 s101 =>
    if ¬ r102 = (44 : Int32) then (
      if (zg s101 0 0) = (16 : Int32) then (
        let s103 : zS := zs s101 0 18 x1
        zbo (0 : Int32) <|
        some (some (.inl (0 : Int32)), s103))
      else (
        zcI (C 144 [.inr (.inr 0), .inr (.inr 14), .inl (0 : Int32), .inl x3] s101) fun r105 s104 =>
        if ¬ r105 = 0 then (
          zcI (C 146 [.inr (.inr 0), .inl x2, .inl x3] s104) fun r107 s106 =>
          zcI (C 158 [.inr (.inr 0), .inl r107] s106) fun r109 s108 =>
          zbo r109 <|
          some (some (.inl r109), s108))
        else (
          let s110 : zS := zs s104 0 18 x1
          zbo (0 : Int32) <|
          some (some (.inl (0 : Int32)), s110))))
    else (
      zbo (0 : Int32) <|
      some (some (.inl (0 : Int32)), s101)))
  else (
    zcI (C 156 [.inr (.inr 0), .inl x3] s) fun r112 s111 =>
    if ¬ r112 = 0 then (
      if (3 : Int32) ≤ (x3 + (1 : Int32)) then (
        J 36 [some (.inr (.inr 0)), some (.inl x1), some (.inl x2), some (.inl (x3 + (1 : Int32))), some (.inl (0 : Int32))] [] s111)
      else (
        zcI (C 152 [.inr (.inr 0), .inl (44 : Int32)] s111) fun r114 s113 =>
        if r114 = 0 then (
          J 36 [some (.inr (.inr 0)), some (.inl x1), some (.inl x2), some (.inl (x3 + (1 : Int32))), some (.inl (0 : Int32))] [] s113)
        else (
          J 36 [some (.inr (.inr 0)), some (.inl x1), some (.inl x2), some (.inl (x3 + (1 : Int32))), some (.inl (1 : Int32))] [] s113)))
    else (
      zbo (0 : Int32) <|
      some (some (.inl (0 : Int32)), s111)))
set_option maxRecDepth 100000 in
set_option maxHeartbeats 4000000 in
theorem bM_M_item_36_e (C : Nat → List zV → zS → zR) (J : Nat → zL → List zV → zS → zR) (x1 : Int32) (x2 : Int32) (x3 : Int32) (x4 : Int32) (s : zS) : zline skM C J zT_M_item 3 500 (zT_M_item.drop 36) [some (.inr (.inr 0)), some (.inl x1), some (.inl x2), some (.inl x3), some (.inl x4)] [] s = bM_M_item_36 C J x1 x2 x3 x4 s := rfl
def bM_M_isParent_0 (C : Nat → List zV → zS → zR) (J : Nat → zL → List zV → zS → zR) (x1 : Int32) (s : zS) : zR :=
  zcI (C 154 [.inr (.inr 0)] s) fun r102 s101 =>
  if ¬ r102 = 0 then (
    zcI (C 129 [.inr (.inr 0), .inl (zg s101 0 19)] s101) fun r104 s103 =>
    if r104 = 0 then (
      J 23 [some (.inr (.inr 0)), some (.inl x1), some (.inl (0 : Int32)), some (.inl (0 : Int32))] [] s103)
    else (
      zin (zg s103 0 19) 16 <|
      if (zg s103 1 (Int32.toNatClampNeg (zg s103 0 19))) = (2 : Int32) then (
        J 23 [some (.inr (.inr 0)), some (.inl x1), some (.inl (0 : Int32)), some (.inl (0 : Int32))] [] s103)
      else (
        J 23 [some (.inr (.inr 0)), some (.inl x1), some (.inl (1 : Int32)), some (.inl (0 : Int32))] [] s103)))
  else (
    zbo (0 : Int32) <|
    some (some (.inl (0 : Int32)), s101))
set_option maxRecDepth 100000 in
set_option maxHeartbeats 4000000 in
theorem bM_M_isParent_0_e (C : Nat → List zV → zS → zR) (J : Nat → zL → List zV → zS → zR) (x1 : Int32) (s : zS) : zline skM C J zT_M_isParent 3 500 (zT_M_isParent.drop 0) [some (.inr (.inr 0)), some (.inl x1), none, none] [] s = bM_M_isParent_0 C J x1 s := rfl
def bM_M_isParent_23 (C : Nat → List zV → zS → zR) (J : Nat → zL → List zV → zS → zR) (x1 : Int32) (x2 : Int32) (x3 : Int32) (s : zS) : zR :=
  if x1 ≤ x3 then (
    if ¬ x2 = 0 then (
      zin x1 3 <|
      let s101 : zS := zs s 14 (Int32.toNatClampNeg x1) (zg s 0 19)
      zbo x2 <|
      some (some (.inl x2), s101))
    else (
      let s102 : zS := zs s 0 18 (zg s 0 20)
      zin x1 3 <|
      let s103 : zS := zs s102 14 (Int32.toNatClampNeg x1) (zg s 0 19)
      zbo x2 <|
      some (some (.inl x2), s103)))
  else (
    zin x3 3 <|
    if ¬ (zg s 14 (Int32.toNatClampNeg x3)) = (zg s 0 19) then (
      J 23 [some (.inr (.inr 0)), some (.inl x1), some (.inl x2), some (.inl (x3 + (1 : Int32)))] [] s)
    else (
      J 23 [some (.inr (.inr 0)), some (.inl x1), some (.inl (0 : Int32)), some (.inl (x3 + (1 : Int32)))] [] s))
set_option maxRecDepth 100000 in
set_option maxHeartbeats 4000000 in
theorem bM_M_isParent_23_e (C : Nat → List zV → zS → zR) (J : Nat → zL → List zV → zS → zR) (x1 : Int32) (x2 : Int32) (x3 : Int32) (s : zS) : zline skM C J zT_M_isParent 3 500 (zT_M_isParent.drop 23) [some (.inr (.inr 0)), some (.inl x1), some (.inl x2), some (.inl x3)] [] s = bM_M_isParent_23 C J x1 x2 x3 s := rfl
def bM_M_isNumber_0 (C : Nat → List zV → zS → zR) (J : Nat → zL → List zV → zS → zR) (s : zS) : zR :=
  let s101 : zS := zs s 0 20 (zg s 0 18)
  let s102 : zS := zs s101 0 19 (0 : Int32)
  J 7 [some (.inr (.inr 0))] [] s102
set_option maxRecDepth 100000 in
set_option maxHeartbeats 4000000 in
theorem bM_M_isNumber_0_e (C : Nat → List zV → zS → zR) (J : Nat → zL → List zV → zS → zR) (s : zS) : zline skM C J zT_M_isNumber 3 500 (zT_M_isNumber.drop 0) [some (.inr (.inr 0))] [] s = bM_M_isNumber_0 C J s := rfl
def bM_M_isNumber_7 (C : Nat → List zV → zS → zR) (J : Nat → zL → List zV → zS → zR) (s : zS) : zR :=
  if (2 : Int32) ≤ ((zg s 0 18) - (zg s 0 20)) then (
    if (zg s 0 18) ≤ (zg s 0 20) then (
      zbo (0 : Int32) <|
      some (some (.inl (0 : Int32)), s))
    else (
      zbo (1 : Int32) <|
      some (some (.inl (1 : Int32)), s)))
  else (
    zcI (C 153 [.inr (.inr 0)] s) fun r102 s101 =>
    if r102 = 0 then (
      if (zg s101 0 18) ≤ (zg s101 0 20) then (
        zbo (0 : Int32) <|
        some (some (.inl (0 : Int32)), s101))
      else (
        zbo (1 : Int32) <|
        some (some (.inl (1 : Int32)), s101)))
    else (
      zcI (C 151 [.inr (.inr 0)] s101) fun r104 s103 =>
      let s105 : zS := zs s103 0 19 ((((10 : Int32) * (zg s101 0 19)) + r104) - (48 : Int32))
      let s106 : zS := zs s105 0 18 ((zg s103 0 18) + (1 : Int32))
      J 7 [some (.inr (.inr 0))] [] s106))
set_option maxRecDepth 100000 in
set_option maxHeartbeats 4000000 in
theorem bM_M_isNumber_7_e (C : Nat → List zV → zS → zR) (J : Nat → zL → List zV → zS → zR) (s : zS) : zline skM C J zT_M_isNumber 3 500 (zT_M_isNumber.drop 7) [some (.inr (.inr 0))] [] s = bM_M_isNumber_7 C J s := rfl
def bM_M_isDigit_0 (C : Nat → List zV → zS → zR) (J : Nat → zL → List zV → zS → zR) (s : zS) : zR :=
  zcI (C 151 [.inr (.inr 0)] s) fun r102 s101 =>
  zcI (C 128 [.inl r102, .inl (48 : Int32), .inl (57 : Int32)] s101) fun r104 s103 =>
  zbo r104 <|
  some (some (.inl r104), s103)
set_option maxRecDepth 100000 in
set_option maxHeartbeats 4000000 in
theorem bM_M_isDigit_0_e (C : Nat → List zV → zS → zR) (J : Nat → zL → List zV → zS → zR) (s : zS) : zline skM C J zT_M_isDigit 3 500 (zT_M_isDigit.drop 0) [some (.inr (.inr 0))] [] s = bM_M_isDigit_0 C J s := rfl
def bM_M_slots_0 (C : Nat → List zV → zS → zR) (J : Nat → zL → List zV → zS → zR) (x1 : Int32) (s : zS) : zR :=
  zcI (C 152 [.inr (.inr 0), .inl (32 : Int32)] s) fun r102 s101 =>
  if r102 = 0 then (
    zbo (1 : Int32) <|
    some (some (.inl (1 : Int32)), s101))
  else (
    zcI (C 151 [.inr (.inr 0)] s101) fun r104 s103 =>
    zcI (C 128 [.inl r104, .inl (97 : Int32), .inl (112 : Int32)] s103) fun r106 s105 =>
    if ¬ r106 = 0 then (
      zcI (C 151 [.inr (.inr 0)] s105) fun r108 s107 =>
      let s109 : zS := zs s107 0 18 ((zg s107 0 18) + (1 : Int32))
      zcI (C 151 [.inr (.inr 0)] s109) fun r111 s110 =>
      if ¬ r111 = (58 : Int32) then (
        if (0 : Int32) = 0 then (
          zcI (C 152 [.inr (.inr 0), .inl (61 : Int32)] s110) fun r113 s112 =>
          if ¬ r113 = 0 then (
            zcI (C 157 [.inr (.inr 0)] s112) fun r115 s114 =>
            if ¬ r115 = 0 then (
              zcV (C 162 [.inr (.inr 0), .inl x1, .inl (r108 - (97 : Int32)), .inl (0 : Int32), .inl (0 : Int32), .inl (zg s114 0 19)] s114) fun s116 =>
              J 0 [some (.inr (.inr 0)), some (.inl x1), none, none, none] [] s116)
            else (
              zbo (0 : Int32) <|
              some (some (.inl (0 : Int32)), s114)))
          else (
            zbo (0 : Int32) <|
            some (some (.inl (0 : Int32)), s112)))
        else (
          let s117 : zS := zs s110 0 18 ((zg s110 0 18) + (1 : Int32))
          zcI (C 155 [.inr (.inr 0), .inl (9 : Int32)] s117) fun r119 s118 =>
          if ¬ r119 = 0 then (
            zcI (C 152 [.inr (.inr 0), .inl (46 : Int32)] s118) fun r121 s120 =>
            if ¬ r121 = 0 then (
              zcI (C 157 [.inr (.inr 0)] s120) fun r123 s122 =>
              if ¬ r123 = 0 then (
                zcV (C 162 [.inr (.inr 0), .inl x1, .inl (r108 - (97 : Int32)), .inl (0 : Int32), .inl (zg s118 0 19), .inl (zg s122 0 19)] s122) fun s124 =>
                J 0 [some (.inr (.inr 0)), some (.inl x1), none, none, none] [] s124)
              else (
                zbo (0 : Int32) <|
                some (some (.inl (0 : Int32)), s122)))
            else (
              zbo (0 : Int32) <|
              some (some (.inl (0 : Int32)), s120)))
          else (
            zbo (0 : Int32) <|
            some (some (.inl (0 : Int32)), s118))))
      else (
        if (1 : Int32) = 0 then (
          zcI (C 152 [.inr (.inr 0), .inl (61 : Int32)] s110) fun r126 s125 =>
          if ¬ r126 = 0 then (
            zcI (C 157 [.inr (.inr 0)] s125) fun r128 s127 =>
            if ¬ r128 = 0 then (
              zcV (C 162 [.inr (.inr 0), .inl x1, .inl (r108 - (97 : Int32)), .inl (1 : Int32), .inl (0 : Int32), .inl (zg s127 0 19)] s127) fun s129 =>
              J 0 [some (.inr (.inr 0)), some (.inl x1), none, none, none] [] s129)
            else (
              zbo (0 : Int32) <|
              some (some (.inl (0 : Int32)), s127)))
          else (
            zbo (0 : Int32) <|
            some (some (.inl (0 : Int32)), s125)))
        else (
          let s130 : zS := zs s110 0 18 ((zg s110 0 18) + (1 : Int32))
          zcI (C 155 [.inr (.inr 0), .inl (9 : Int32)] s130) fun r132 s131 =>
          if ¬ r132 = 0 then (
            zcI (C 152 [.inr (.inr 0), .inl (46 : Int32)] s131) fun r134 s133 =>
            if ¬ r134 = 0 then (
              zcI (C 157 [.inr (.inr 0)] s133) fun r136 s135 =>
              if ¬ r136 = 0 then (
                zcV (C 162 [.inr (.inr 0), .inl x1, .inl (r108 - (97 : Int32)), .inl (1 : Int32), .inl (zg s131 0 19), .inl (zg s135 0 19)] s135) fun s137 =>
                J 0 [some (.inr (.inr 0)), some (.inl x1), none, none, none] [] s137)
              else (
                zbo (0 : Int32) <|
                some (some (.inl (0 : Int32)), s135)))
            else (
              zbo (0 : Int32) <|
              some (some (.inl (0 : Int32)), s133)))
          else (
            zbo (0 : Int32) <|
            some (some (.inl (0 : Int32)), s131)))))
    else (
      zbo (0 : Int32) <|
      some (some (.inl (0 : Int32)), s105)))
set_option maxRecDepth 100000 in
set_option maxHeartbeats 4000000 in
theorem bM_M_slots_0_e (C : Nat → List zV → zS → zR) (J : Nat → zL → List zV → zS → zR) (x1 : Int32) (s : zS) : zline skM C J zT_M_slots 3 500 (zT_M_slots.drop 0) [some (.inr (.inr 0)), some (.inl x1), none, none, none] [] s = bM_M_slots_0 C J x1 s := rfl
def bM_M_isSigned_0 (C : Nat → List zV → zS → zR) (J : Nat → zL → List zV → zS → zR) (s : zS) : zR :=
  zcI (C 152 [.inr (.inr 0), .inl (45 : Int32)] s) fun r102 s101 =>
  zcI (C 154 [.inr (.inr 0)] s101) fun r104 s103 =>
  if ¬ r104 = 0 then (
    if r102 = 0 then (
      zbo (1 : Int32) <|
      some (some (.inl (1 : Int32)), s103))
    else (
      let s105 : zS := zs s103 0 19 (-(zg s103 0 19))
      zbo (1 : Int32) <|
      some (some (.inl (1 : Int32)), s105)))
  else (
    zbo (0 : Int32) <|
    some (some (.inl (0 : Int32)), s103))
set_option maxRecDepth 100000 in
set_option maxHeartbeats 4000000 in
theorem bM_M_isSigned_0_e (C : Nat → List zV → zS → zR) (J : Nat → zL → List zV → zS → zR) (s : zS) : zline skM C J zT_M_isSigned 3 500 (zT_M_isSigned.drop 0) [some (.inr (.inr 0)), none] [] s = bM_M_isSigned_0 C J s := rfl
def bM_M_holds2_0 (C : Nat → List zV → zS → zR) (J : Nat → zL → List zV → zS → zR) (x1 : Int32) (x2 : Int32) (x3 : Int32) (x4 : Int32) (x5 : Int32) (s : zS) : zR :=
  zin x1 16 <|
  zin x1 16 <|
  let s101 : zS := zs s 6 (Int32.toNatClampNeg x1) ((zg s 6 (Int32.toNatClampNeg x1)) ||| ((1 : Int32) <<< (x2 &&& 31)))
  if x3 = 0 then (
    zin x1 16 <|
    zin x1 16 <|
    let s102 : zS := zs s101 7 (Int32.toNatClampNeg x1) ((zg s 7 (Int32.toNatClampNeg x1)) &&& (((1 : Int32) <<< (x2 &&& 31)) ^^^ (-1 : Int32)))
    if x3 = 0 then (
      zin (((16 : Int32) * x1) + x2) 256 <|
      let s103 : zS := zs s102 8 (Int32.toNatClampNeg (((16 : Int32) * x1) + x2)) (0 : Int32)
      zin (((16 : Int32) * x1) + x2) 256 <|
      let s104 : zS := zs s103 9 (Int32.toNatClampNeg (((16 : Int32) * x1) + x2)) x5
      some (none, s104))
    else (
      zin (((16 : Int32) * x1) + x2) 256 <|
      let s105 : zS := zs s102 8 (Int32.toNatClampNeg (((16 : Int32) * x1) + x2)) x4
      zin (((16 : Int32) * x1) + x2) 256 <|
      let s106 : zS := zs s105 9 (Int32.toNatClampNeg (((16 : Int32) * x1) + x2)) x5
      some (none, s106)))
  else (
    zin x1 16 <|
    zin x1 16 <|
    let s107 : zS := zs s101 7 (Int32.toNatClampNeg x1) ((zg s 7 (Int32.toNatClampNeg x1)) ||| ((1 : Int32) <<< (x2 &&& 31)))
    if x3 = 0 then (
      zin (((16 : Int32) * x1) + x2) 256 <|
      let s108 : zS := zs s107 8 (Int32.toNatClampNeg (((16 : Int32) * x1) + x2)) (0 : Int32)
      zin (((16 : Int32) * x1) + x2) 256 <|
      let s109 : zS := zs s108 9 (Int32.toNatClampNeg (((16 : Int32) * x1) + x2)) x5
      some (none, s109))
    else (
      zin (((16 : Int32) * x1) + x2) 256 <|
      let s110 : zS := zs s107 8 (Int32.toNatClampNeg (((16 : Int32) * x1) + x2)) x4
      zin (((16 : Int32) * x1) + x2) 256 <|
      let s111 : zS := zs s110 9 (Int32.toNatClampNeg (((16 : Int32) * x1) + x2)) x5
      some (none, s111)))
set_option maxRecDepth 100000 in
set_option maxHeartbeats 4000000 in
theorem bM_M_holds2_0_e (C : Nat → List zV → zS → zR) (J : Nat → zL → List zV → zS → zR) (x1 : Int32) (x2 : Int32) (x3 : Int32) (x4 : Int32) (x5 : Int32) (s : zS) : zline skM C J zT_M_holds2 0 500 (zT_M_holds2.drop 0) [some (.inr (.inr 0)), some (.inl x1), some (.inl x2), some (.inl x3), some (.inl x4), some (.inl x5)] [] s = bM_M_holds2_0 C J x1 x2 x3 x4 x5 s := rfl
def bM_M_isDigit2_0 (C : Nat → List zV → zS → zR) (J : Nat → zL → List zV → zS → zR) (x1 : Int32) (s : zS) : zR :=
  zcI (C 153 [.inr (.inr 0)] s) fun r102 s101 =>
  if r102 = 0 then (
    zbo (0 : Int32) <|
    some (some (.inl (0 : Int32)), s101))
  else (
    zcI (C 151 [.inr (.inr 0)] s101) fun r104 s103 =>
    if (r104 - (48 : Int32)) ≤ x1 then (
      zcI (C 151 [.inr (.inr 0)] s103) fun r106 s105 =>
      let s107 : zS := zs s105 0 19 (r106 - (48 : Int32))
      let s108 : zS := zs s107 0 18 ((zg s105 0 18) + (1 : Int32))
      zbo (1 : Int32) <|
      some (some (.inl (1 : Int32)), s108))
    else (
      zbo (0 : Int32) <|
      some (some (.inl (0 : Int32)), s103)))
set_option maxRecDepth 100000 in
set_option maxHeartbeats 4000000 in
theorem bM_M_isDigit2_0_e (C : Nat → List zV → zS → zR) (J : Nat → zL → List zV → zS → zR) (x1 : Int32) (s : zS) : zline skM C J zT_M_isDigit2 3 500 (zT_M_isDigit2.drop 0) [some (.inr (.inr 0)), some (.inl x1)] [] s = bM_M_isDigit2_0 C J x1 s := rfl
def bM_M_fault_0 (C : Nat → List zV → zS → zR) (J : Nat → zL → List zV → zS → zR) (s : zS) : zR :=
  some (some (.inl (zg s 0 16)), s)
set_option maxRecDepth 100000 in
set_option maxHeartbeats 4000000 in
theorem bM_M_fault_0_e (C : Nat → List zV → zS → zR) (J : Nat → zL → List zV → zS → zR) (s : zS) : zline skM C J zT_M_fault 1 500 (zT_M_fault.drop 0) [some (.inr (.inr 0))] [] s = bM_M_fault_0 C J s := rfl
def bM_M_value_0 (C : Nat → List zV → zS → zR) (J : Nat → zL → List zV → zS → zR) (x1 : Int32) (x2 : Int32) (x3 : Int32) (s : zS) : zR :=
  zcI (C 129 [.inr (.inr 0), .inl x1] s) fun r102 s101 =>
  if r102 = 0 then (
    zcI (C 126 [.inr (.inr 0), .inl (-1 : Int32)] s101) fun r104 s103 =>
    some (some (.inl r104), s103))
  else (
    zcI (C 130 [.inl x2] s101) fun r106 s105 =>
    if ¬ r106 = 0 then (
      zin x1 16 <|
      if ¬ (zg s105 1 (Int32.toNatClampNeg x1)) = (3 : Int32) then (
        zin x1 16 <|
        let x107 : Int32 := (((zg s105 6 (Int32.toNatClampNeg x1)) >>> (x2 &&& 31)) &&& (1 : Int32))
        zcV (C 162 [.inr (.inr 0), .inl x1, .inl x2, .inl (0 : Int32), .inl (0 : Int32), .inl x3] s105) fun s108 =>
        some (some (.inl x107), s108))
      else (
        zcI (C 126 [.inr (.inr 0), .inl (-6 : Int32)] s105) fun r110 s109 =>
        some (some (.inl r110), s109)))
    else (
      zcI (C 126 [.inr (.inr 0), .inl (-1 : Int32)] s105) fun r112 s111 =>
      some (some (.inl r112), s111)))
set_option maxRecDepth 100000 in
set_option maxHeartbeats 4000000 in
theorem bM_M_value_0_e (C : Nat → List zV → zS → zR) (J : Nat → zL → List zV → zS → zR) (x1 : Int32) (x2 : Int32) (x3 : Int32) (s : zS) : zline skM C J zT_M_value 1 500 (zT_M_value.drop 0) [some (.inr (.inr 0)), some (.inl x1), some (.inl x2), some (.inl x3), none] [] s = bM_M_value_0 C J x1 x2 x3 s := rfl
def bM_M_isSlot_0 (C : Nat → List zV → zS → zR) (J : Nat → zL → List zV → zS → zR) (x0 : Int32) (s : zS) : zR :=
  zcI (C 128 [.inl x0, .inl (0 : Int32), .inl (15 : Int32)] s) fun r102 s101 =>
  zbo r102 <|
  some (some (.inl r102), s101)
set_option maxRecDepth 100000 in
set_option maxHeartbeats 4000000 in
theorem bM_M_isSlot_0_e (C : Nat → List zV → zS → zR) (J : Nat → zL → List zV → zS → zR) (x0 : Int32) (s : zS) : zline skM C J zT_M_isSlot 3 500 (zT_M_isSlot.drop 0) [some (.inl x0)] [] s = bM_M_isSlot_0 C J x0 s := rfl
def bM_M_method_0 (C : Nat → List zV → zS → zR) (J : Nat → zL → List zV → zS → zR) (x1 : Int32) (x2 : Int32) (x3 : Int32) (x4 : Int32) (s : zS) : zR :=
  zcI (C 129 [.inr (.inr 0), .inl x1] s) fun r102 s101 =>
  if r102 = 0 then (
    zcI (C 126 [.inr (.inr 0), .inl (-1 : Int32)] s101) fun r104 s103 =>
    some (some (.inl r104), s103))
  else (
    zcI (C 130 [.inl x2] s101) fun r106 s105 =>
    if ¬ r106 = 0 then (
      zcI (C 128 [.inl x3, .inl (0 : Int32), .inl (9 : Int32)] s105) fun r108 s107 =>
      if r108 = 0 then (
        zcI (C 126 [.inr (.inr 0), .inl (-6 : Int32)] s107) fun r110 s109 =>
        some (some (.inl r110), s109))
      else (
        zcI (C 128 [.inl x4, .inl (-99 : Int32), .inl (99 : Int32)] s107) fun r112 s111 =>
        if r112 = 0 then (
          zcI (C 126 [.inr (.inr 0), .inl (-6 : Int32)] s111) fun r114 s113 =>
          some (some (.inl r114), s113))
        else (
          zin x1 16 <|
          if ¬ (zg s111 1 (Int32.toNatClampNeg x1)) = (3 : Int32) then (
            zin x1 16 <|
            let x115 : Int32 := (((zg s111 6 (Int32.toNatClampNeg x1)) >>> (x2 &&& 31)) &&& (1 : Int32))
            zcV (C 162 [.inr (.inr 0), .inl x1, .inl x2, .inl (1 : Int32), .inl x3, .inl x4] s111) fun s116 =>
            some (some (.inl x115), s116))
          else (
            zcI (C 126 [.inr (.inr 0), .inl (-6 : Int32)] s111) fun r118 s117 =>
            some (some (.inl r118), s117)))))
    else (
      zcI (C 126 [.inr (.inr 0), .inl (-1 : Int32)] s105) fun r120 s119 =>
      some (some (.inl r120), s119)))
set_option maxRecDepth 100000 in
set_option maxHeartbeats 4000000 in
theorem bM_M_method_0_e (C : Nat → List zV → zS → zR) (J : Nat → zL → List zV → zS → zR) (x1 : Int32) (x2 : Int32) (x3 : Int32) (x4 : Int32) (s : zS) : zline skM C J zT_M_method 1 500 (zT_M_method.drop 0) [some (.inr (.inr 0)), some (.inl x1), some (.inl x2), some (.inl x3), some (.inl x4), none] [] s = bM_M_method_0 C J x1 x2 x3 x4 s := rfl
def bM_M_remove_0 (C : Nat → List zV → zS → zR) (J : Nat → zL → List zV → zS → zR) (x1 : Int32) (x2 : Int32) (s : zS) : zR :=
  zcI (C 129 [.inr (.inr 0), .inl x1] s) fun r102 s101 =>
  if r102 = 0 then (
    zcI (C 126 [.inr (.inr 0), .inl (-1 : Int32)] s101) fun r104 s103 =>
    some (some (.inl r104), s103))
  else (
    zcI (C 130 [.inl x2] s101) fun r106 s105 =>
    if ¬ r106 = 0 then (
      zin x1 16 <|
      zcI (C 131 [.inl (zg s105 6 (Int32.toNatClampNeg x1)), .inl x2] s105) fun r108 s107 =>
      if ¬ r108 = 0 then (
        zin x1 16 <|
        if ¬ (zg s107 1 (Int32.toNatClampNeg x1)) = (3 : Int32) then (
          zcV (C 165 [.inr (.inr 0), .inl x1, .inl x2] s107) fun s109 =>
          some (some (.inl (1 : Int32)), s109))
        else (
          zcI (C 126 [.inr (.inr 0), .inl (-6 : Int32)] s107) fun r111 s110 =>
          some (some (.inl r111), s110)))
      else (
        zcI (C 126 [.inr (.inr 0), .inl (-5 : Int32)] s107) fun r113 s112 =>
        some (some (.inl r113), s112)))
    else (
      zcI (C 126 [.inr (.inr 0), .inl (-1 : Int32)] s105) fun r115 s114 =>
      some (some (.inl r115), s114)))
set_option maxRecDepth 100000 in
set_option maxHeartbeats 4000000 in
theorem bM_M_remove_0_e (C : Nat → List zV → zS → zR) (J : Nat → zL → List zV → zS → zR) (x1 : Int32) (x2 : Int32) (s : zS) : zline skM C J zT_M_remove 1 500 (zT_M_remove.drop 0) [some (.inr (.inr 0)), some (.inl x1), some (.inl x2)] [] s = bM_M_remove_0 C J x1 x2 s := rfl
def bM_M_isIn_0 (C : Nat → List zV → zS → zR) (J : Nat → zL → List zV → zS → zR) (x0 : Int32) (x1 : Int32) (s : zS) : zR :=
  if ¬ ((x0 >>> (x1 &&& 31)) &&& (1 : Int32)) = (1 : Int32) then (
    zbo (0 : Int32) <|
    some (some (.inl (0 : Int32)), s))
  else (
    zbo (1 : Int32) <|
    some (some (.inl (1 : Int32)), s))
set_option maxRecDepth 100000 in
set_option maxHeartbeats 4000000 in
theorem bM_M_isIn_0_e (C : Nat → List zV → zS → zR) (J : Nat → zL → List zV → zS → zR) (x0 : Int32) (x1 : Int32) (s : zS) : zline skM C J zT_M_isIn 3 500 (zT_M_isIn.drop 0) [some (.inl x0), some (.inl x1)] [] s = bM_M_isIn_0 C J x0 x1 s := rfl
def bM_M_drops_0 (C : Nat → List zV → zS → zR) (J : Nat → zL → List zV → zS → zR) (x1 : Int32) (x2 : Int32) (s : zS) : zR :=
  zin x1 16 <|
  zin x1 16 <|
  let s101 : zS := zs s 6 (Int32.toNatClampNeg x1) ((zg s 6 (Int32.toNatClampNeg x1)) &&& (((1 : Int32) <<< (x2 &&& 31)) ^^^ (-1 : Int32)))
  zin x1 16 <|
  zin x1 16 <|
  let s102 : zS := zs s101 7 (Int32.toNatClampNeg x1) ((zg s 7 (Int32.toNatClampNeg x1)) &&& (((1 : Int32) <<< (x2 &&& 31)) ^^^ (-1 : Int32)))
  some (none, s102)
set_option maxRecDepth 100000 in
set_option maxHeartbeats 4000000 in
theorem bM_M_drops_0_e (C : Nat → List zV → zS → zR) (J : Nat → zL → List zV → zS → zR) (x1 : Int32) (x2 : Int32) (s : zS) : zline skM C J zT_M_drops 0 500 (zT_M_drops.drop 0) [some (.inr (.inr 0)), some (.inl x1), some (.inl x2)] [] s = bM_M_drops_0 C J x1 x2 s := rfl
def bM_M_objectOf_0 (C : Nat → List zV → zS → zR) (J : Nat → zL → List zV → zS → zR) (x1 : Int32) (x2 : Int32) (s : zS) : zR :=
  zcI (C 129 [.inr (.inr 0), .inl x1] s) fun r102 s101 =>
  if ¬ r102 = 0 then (
    zcI (C 128 [.inl x2, .inl (2 : Int32), .inl (4 : Int32)] s101) fun r104 s103 =>
    if r104 = 0 then (
      if x2 = (0 : Int32) then (
        zin x1 16 <|
        some (some (.inl (zg s103 1 (Int32.toNatClampNeg x1))), s103))
      else (
      if x2 = ((0 : Int32) + 1) then (
        zin x1 16 <|
        some (some (.inl (zg s103 2 (Int32.toNatClampNeg x1))), s103))
      else (
      if x2 = (((0 : Int32) + 1) + 1) then (
        zcI (C 126 [.inr (.inr 0), .inl (-5 : Int32)] s103) fun r106 s105 =>
        some (some (.inl r106), s105))
      else (
      if x2 = ((((0 : Int32) + 1) + 1) + 1) then (
        zcI (C 126 [.inr (.inr 0), .inl (-5 : Int32)] s103) fun r108 s107 =>
        some (some (.inl r108), s107))
      else (
      if x2 = (((((0 : Int32) + 1) + 1) + 1) + 1) then (
        zcI (C 126 [.inr (.inr 0), .inl (-5 : Int32)] s103) fun r110 s109 =>
        some (some (.inl r110), s109))
      else (
      if x2 = ((((((0 : Int32) + 1) + 1) + 1) + 1) + 1) then (
        zin x1 16 <|
        some (some (.inl (zg s103 6 (Int32.toNatClampNeg x1))), s103))
      else (
      if x2 = (((((((0 : Int32) + 1) + 1) + 1) + 1) + 1) + 1) then (
        zcI (C 170 [.inr (.inr 0), .inl x1] s103) fun r112 s111 =>
        some (some (.inl r112), s111))
      else (
      if x2 = ((((((((0 : Int32) + 1) + 1) + 1) + 1) + 1) + 1) + 1) then (
        zin x1 16 <|
        some (some (.inl (zg s103 4 (Int32.toNatClampNeg x1))), s103))
      else (
      if x2 = (((((((((0 : Int32) + 1) + 1) + 1) + 1) + 1) + 1) + 1) + 1) then (
        zcI (C 169 [.inr (.inr 0), .inl x1] s103) fun r114 s113 =>
        some (some (.inl r114), s113))
      else (
        zcI (C 126 [.inr (.inr 0), .inl (-5 : Int32)] s103) fun r116 s115 =>
        some (some (.inl r116), s115)))))))))))
    else (
      zin ((((3 : Int32) * x1) + x2) - (2 : Int32)) 48 <|
      some (some (.inl (zg s103 3 (Int32.toNatClampNeg ((((3 : Int32) * x1) + x2) - (2 : Int32))))), s103)))
  else (
    zcI (C 126 [.inr (.inr 0), .inl (-5 : Int32)] s101) fun r118 s117 =>
    some (some (.inl r118), s117))
set_option maxRecDepth 100000 in
set_option maxHeartbeats 4000000 in
theorem bM_M_objectOf_0_e (C : Nat → List zV → zS → zR) (J : Nat → zL → List zV → zS → zR) (x1 : Int32) (x2 : Int32) (s : zS) : zline skM C J zT_M_objectOf 1 500 (zT_M_objectOf.drop 0) [some (.inr (.inr 0)), some (.inl x1), some (.inl x2)] [] s = bM_M_objectOf_0 C J x1 x2 s := rfl
def bM_M_family_0 (C : Nat → List zV → zS → zR) (J : Nat → zL → List zV → zS → zR) (x1 : Int32) (s : zS) : zR :=
  J 4 [some (.inr (.inr 0)), some (.inl x1), some (.inl (0 : Int32)), some (.inl (0 : Int32))] [] s
set_option maxRecDepth 100000 in
set_option maxHeartbeats 4000000 in
theorem bM_M_family_0_e (C : Nat → List zV → zS → zR) (J : Nat → zL → List zV → zS → zR) (x1 : Int32) (s : zS) : zline skM C J zT_M_family 1 500 (zT_M_family.drop 0) [some (.inr (.inr 0)), some (.inl x1), none, none] [] s = bM_M_family_0 C J x1 s := rfl
def bM_M_family_4 (C : Nat → List zV → zS → zR) (J : Nat → zL → List zV → zS → zR) (x1 : Int32) (x2 : Int32) (x3 : Int32) (s : zS) : zR :=
  if (zg s 0 0) ≤ x3 then (
    some (some (.inl x2), s))
  else (
    zcI (C 167 [.inr (.inr 0), .inl x3, .inl x1] s) fun r102 s101 =>
    if r102 = (-1 : Int32) then (
      J 4 [some (.inr (.inr 0)), some (.inl x1), some (.inl x2), some (.inl (x3 + (1 : Int32)))] [] s101)
    else (
      J 4 [some (.inr (.inr 0)), some (.inl x1), some (.inl (x2 ||| ((1 : Int32) <<< (x3 &&& 31)))), some (.inl (x3 + (1 : Int32)))] [] s101))
set_option maxRecDepth 100000 in
set_option maxHeartbeats 4000000 in
theorem bM_M_family_4_e (C : Nat → List zV → zS → zR) (J : Nat → zL → List zV → zS → zR) (x1 : Int32) (x2 : Int32) (x3 : Int32) (s : zS) : zline skM C J zT_M_family 1 500 (zT_M_family.drop 4) [some (.inr (.inr 0)), some (.inl x1), some (.inl x2), some (.inl x3)] [] s = bM_M_family_4 C J x1 x2 x3 s := rfl
def bM_M_place_0 (C : Nat → List zV → zS → zR) (J : Nat → zL → List zV → zS → zR) (x1 : Int32) (x2 : Int32) (s : zS) : zR :=
  J 2 [some (.inr (.inr 0)), some (.inl x1), some (.inl x2), some (.inl (0 : Int32))] [] s
set_option maxRecDepth 100000 in
set_option maxHeartbeats 4000000 in
theorem bM_M_place_0_e (C : Nat → List zV → zS → zR) (J : Nat → zL → List zV → zS → zR) (x1 : Int32) (x2 : Int32) (s : zS) : zline skM C J zT_M_place 1 500 (zT_M_place.drop 0) [some (.inr (.inr 0)), some (.inl x1), some (.inl x2), none] [] s = bM_M_place_0 C J x1 x2 s := rfl
def bM_M_place_2 (C : Nat → List zV → zS → zR) (J : Nat → zL → List zV → zS → zR) (x1 : Int32) (x2 : Int32) (x3 : Int32) (s : zS) : zR :=
  zin x1 16 <|
  if (zg s 4 (Int32.toNatClampNeg x1)) ≤ x3 then (
    some (some (.inl (-1 : Int32)), s))
  else (
    zin (((16 : Int32) * x1) + x3) 256 <|
    if ¬ (zg s 5 (Int32.toNatClampNeg (((16 : Int32) * x1) + x3))) = x2 then (
      J 2 [some (.inr (.inr 0)), some (.inl x1), some (.inl x2), some (.inl (x3 + (1 : Int32)))] [] s)
    else (
      some (some (.inl x3), s)))
set_option maxRecDepth 100000 in
set_option maxHeartbeats 4000000 in
theorem bM_M_place_2_e (C : Nat → List zV → zS → zR) (J : Nat → zL → List zV → zS → zR) (x1 : Int32) (x2 : Int32) (x3 : Int32) (s : zS) : zline skM C J zT_M_place 1 500 (zT_M_place.drop 2) [some (.inr (.inr 0)), some (.inl x1), some (.inl x2), some (.inl x3)] [] s = bM_M_place_2 C J x1 x2 x3 s := rfl
def bM_M_allFound_0 (C : Nat → List zV → zS → zR) (J : Nat → zL → List zV → zS → zR) (x1 : Int32) (s : zS) : zR :=
  J 4 [some (.inr (.inr 0)), some (.inl x1), some (.inl (0 : Int32)), some (.inl (0 : Int32))] [] s
set_option maxRecDepth 100000 in
set_option maxHeartbeats 4000000 in
theorem bM_M_allFound_0_e (C : Nat → List zV → zS → zR) (J : Nat → zL → List zV → zS → zR) (x1 : Int32) (s : zS) : zline skM C J zT_M_allFound 1 500 (zT_M_allFound.drop 0) [some (.inr (.inr 0)), some (.inl x1), none, none] [] s = bM_M_allFound_0 C J x1 s := rfl
def bM_M_allFound_4 (C : Nat → List zV → zS → zR) (J : Nat → zL → List zV → zS → zR) (x1 : Int32) (x2 : Int32) (x3 : Int32) (s : zS) : zR :=
  zin x1 16 <|
  if (zg s 4 (Int32.toNatClampNeg x1)) ≤ x3 then (
    some (some (.inl x2), s))
  else (
    zin (((16 : Int32) * x1) + x3) 256 <|
    zin (zg s 5 (Int32.toNatClampNeg (((16 : Int32) * x1) + x3))) 16 <|
    let x101 : Int32 := (x2 ||| (zg s 6 (Int32.toNatClampNeg (zg s 5 (Int32.toNatClampNeg (((16 : Int32) * x1) + x3))))))
    J 4 [some (.inr (.inr 0)), some (.inl x1), some (.inl x101), some (.inl (x3 + (1 : Int32)))] [] s)
set_option maxRecDepth 100000 in
set_option maxHeartbeats 4000000 in
theorem bM_M_allFound_4_e (C : Nat → List zV → zS → zR) (J : Nat → zL → List zV → zS → zR) (x1 : Int32) (x2 : Int32) (x3 : Int32) (s : zS) : zline skM C J zT_M_allFound 1 500 (zT_M_allFound.drop 4) [some (.inr (.inr 0)), some (.inl x1), some (.inl x2), some (.inl x3)] [] s = bM_M_allFound_4 C J x1 x2 x3 s := rfl
def bM_M_order_0 (C : Nat → List zV → zS → zR) (J : Nat → zL → List zV → zS → zR) (x1 : Int32) (x2 : Int32) (s : zS) : zR :=
  zcI (C 129 [.inr (.inr 0), .inl x1] s) fun r102 s101 =>
  if ¬ r102 = 0 then (
    zin x1 16 <|
    zcI (C 128 [.inl x2, .inl (0 : Int32), .inl ((zg s101 4 (Int32.toNatClampNeg x1)) - (1 : Int32))] s101) fun r104 s103 =>
    if r104 = 0 then (
      some (some (.inl (-1 : Int32)), s103))
    else (
      zin (((16 : Int32) * x1) + x2) 256 <|
      some (some (.inl (zg s103 5 (Int32.toNatClampNeg (((16 : Int32) * x1) + x2)))), s103)))
  else (
    zcI (C 127 [.inr (.inr 0), .inl (-1 : Int32)] s101) fun r106 s105 =>
    some (some (.inl r106), s105))
set_option maxRecDepth 100000 in
set_option maxHeartbeats 4000000 in
theorem bM_M_order_0_e (C : Nat → List zV → zS → zR) (J : Nat → zL → List zV → zS → zR) (x1 : Int32) (x2 : Int32) (s : zS) : zline skM C J zT_M_order 1 500 (zT_M_order.drop 0) [some (.inr (.inr 0)), some (.inl x1), some (.inl x2)] [] s = bM_M_order_0 C J x1 x2 s := rfl
def bM_M_distance_0 (C : Nat → List zV → zS → zR) (J : Nat → zL → List zV → zS → zR) (x1 : Int32) (x2 : Int32) (s : zS) : zR :=
  zcI (C 129 [.inr (.inr 0), .inl x1] s) fun r102 s101 =>
  if r102 = 0 then (
    zcI (C 127 [.inr (.inr 0), .inl (-1 : Int32)] s101) fun r104 s103 =>
    some (some (.inl r104), s103))
  else (
    zcI (C 129 [.inr (.inr 0), .inl x2] s101) fun r106 s105 =>
    if r106 = 0 then (
      zcI (C 127 [.inr (.inr 0), .inl (-1 : Int32)] s105) fun r108 s107 =>
      some (some (.inl r108), s107))
    else (
      zcI (C 167 [.inr (.inr 0), .inl x1, .inl x2] s105) fun r110 s109 =>
      some (some (.inl r110), s109)))
set_option maxRecDepth 100000 in
set_option maxHeartbeats 4000000 in
theorem bM_M_distance_0_e (C : Nat → List zV → zS → zR) (J : Nat → zL → List zV → zS → zR) (x1 : Int32) (x2 : Int32) (s : zS) : zline skM C J zT_M_distance 1 500 (zT_M_distance.drop 0) [some (.inr (.inr 0)), some (.inl x1), some (.inl x2)] [] s = bM_M_distance_0 C J x1 x2 s := rfl
def bM_M_where_0 (C : Nat → List zV → zS → zR) (J : Nat → zL → List zV → zS → zR) (x1 : Int32) (x2 : Int32) (s : zS) : zR :=
  zcI (C 129 [.inr (.inr 0), .inl x1] s) fun r102 s101 =>
  if r102 = 0 then (
    zcI (C 127 [.inr (.inr 0), .inl (-1 : Int32)] s101) fun r104 s103 =>
    some (some (.inl r104), s103))
  else (
    zcI (C 130 [.inl x2] s101) fun r106 s105 =>
    if ¬ r106 = 0 then (
      zcI (C 168 [.inr (.inr 0), .inl x1, .inl x2, .inl (0 : Int32)] s105) fun r108 s107 =>
      if ¬ r108 = (-1 : Int32) then (
        zin (((16 : Int32) * x1) + r108) 256 <|
        some (some (.inl (zg s107 5 (Int32.toNatClampNeg (((16 : Int32) * x1) + r108)))), s107))
      else (
        some (some (.inl (-1 : Int32)), s107)))
    else (
      zcI (C 127 [.inr (.inr 0), .inl (-1 : Int32)] s105) fun r110 s109 =>
      some (some (.inl r110), s109)))
set_option maxRecDepth 100000 in
set_option maxHeartbeats 4000000 in
theorem bM_M_where_0_e (C : Nat → List zV → zS → zR) (J : Nat → zL → List zV → zS → zR) (x1 : Int32) (x2 : Int32) (s : zS) : zline skM C J zT_M_where 1 500 (zT_M_where.drop 0) [some (.inr (.inr 0)), some (.inl x1), some (.inl x2), none] [] s = bM_M_where_0 C J x1 x2 s := rfl
def bM_M_found_0 (C : Nat → List zV → zS → zR) (J : Nat → zL → List zV → zS → zR) (x1 : Int32) (x2 : Int32) (x3 : Int32) (s : zS) : zR :=
  J 2 [some (.inr (.inr 0)), some (.inl x1), some (.inl x2), none, some (.inl x3)] [] s
set_option maxRecDepth 100000 in
set_option maxHeartbeats 4000000 in
theorem bM_M_found_0_e (C : Nat → List zV → zS → zR) (J : Nat → zL → List zV → zS → zR) (x1 : Int32) (x2 : Int32) (x3 : Int32) (s : zS) : zline skM C J zT_M_found 1 500 (zT_M_found.drop 0) [some (.inr (.inr 0)), some (.inl x1), some (.inl x2), some (.inl x3), none] [] s = bM_M_found_0 C J x1 x2 x3 s := rfl
def bM_M_found_2 (C : Nat → List zV → zS → zR) (J : Nat → zL → List zV → zS → zR) (x1 : Int32) (x2 : Int32) (x4 : Int32) (s : zS) : zR :=
  zin x1 16 <|
  if (zg s 4 (Int32.toNatClampNeg x1)) ≤ x4 then (
    some (some (.inl (-1 : Int32)), s))
  else (
    zin (((16 : Int32) * x1) + x4) 256 <|
    zin (zg s 5 (Int32.toNatClampNeg (((16 : Int32) * x1) + x4))) 16 <|
    zcI (C 131 [.inl (zg s 6 (Int32.toNatClampNeg (zg s 5 (Int32.toNatClampNeg (((16 : Int32) * x1) + x4))))), .inl x2] s) fun r102 s101 =>
    if r102 = 0 then (
      J 2 [some (.inr (.inr 0)), some (.inl x1), some (.inl x2), none, some (.inl (x4 + (1 : Int32)))] [] s101)
    else (
      some (some (.inl x4), s101)))
set_option maxRecDepth 100000 in
set_option maxHeartbeats 4000000 in
theorem bM_M_found_2_e (C : Nat → List zV → zS → zR) (J : Nat → zL → List zV → zS → zR) (x1 : Int32) (x2 : Int32) (x4 : Int32) (s : zS) : zline skM C J zT_M_found 1 500 (zT_M_found.drop 2) [some (.inr (.inr 0)), some (.inl x1), some (.inl x2), none, some (.inl x4)] [] s = bM_M_found_2 C J x1 x2 x4 s := rfl
def bM_M_hidden_0 (C : Nat → List zV → zS → zR) (J : Nat → zL → List zV → zS → zR) (x1 : Int32) (x2 : Int32) (s : zS) : zR :=
  zcI (C 129 [.inr (.inr 0), .inl x1] s) fun r102 s101 =>
  if r102 = 0 then (
    zcI (C 126 [.inr (.inr 0), .inl (-1 : Int32)] s101) fun r104 s103 =>
    some (some (.inl r104), s103))
  else (
    zcI (C 129 [.inr (.inr 0), .inl x2] s101) fun r106 s105 =>
    if ¬ r106 = 0 then (
      zcI (C 167 [.inr (.inr 0), .inl x1, .inl x2] s105) fun r108 s107 =>
      if ¬ r108 = (-1 : Int32) then (
        zin x2 16 <|
        J 31 [some (.inr (.inr 0)), some (.inl x1), none, some (.inl r108), some (.inl (zg s107 6 (Int32.toNatClampNeg x2))), some (.inl (0 : Int32))] [] s107)
      else (
        zcI (C 126 [.inr (.inr 0), .inl (-6 : Int32)] s107) fun r110 s109 =>
        some (some (.inl r110), s109)))
    else (
      zcI (C 126 [.inr (.inr 0), .inl (-1 : Int32)] s105) fun r112 s111 =>
      some (some (.inl r112), s111)))
set_option maxRecDepth 100000 in
set_option maxHeartbeats 4000000 in
theorem bM_M_hidden_0_e (C : Nat → List zV → zS → zR) (J : Nat → zL → List zV → zS → zR) (x1 : Int32) (x2 : Int32) (s : zS) : zline skM C J zT_M_hidden 1 500 (zT_M_hidden.drop 0) [some (.inr (.inr 0)), some (.inl x1), some (.inl x2), none, none, none] [] s = bM_M_hidden_0 C J x1 x2 s := rfl
def bM_M_hidden_31 (C : Nat → List zV → zS → zR) (J : Nat → zL → List zV → zS → zR) (x1 : Int32) (x3 : Int32) (x4 : Int32) (x5 : Int32) (s : zS) : zR :=
  if (16 : Int32) ≤ x5 then (
    some (some (.inl x4), s))
  else (
    zcI (C 168 [.inr (.inr 0), .inl x1, .inl x5, .inl (0 : Int32)] s) fun r102 s101 =>
    if ¬ r102 = x3 then (
      J 31 [some (.inr (.inr 0)), some (.inl x1), none, some (.inl x3), some (.inl x4), some (.inl (x5 + (1 : Int32)))] [] s101)
    else (
      let x103 : Int32 := (x4 &&& (((1 : Int32) <<< (x5 &&& 31)) ^^^ (-1 : Int32)))
      J 31 [some (.inr (.inr 0)), some (.inl x1), none, some (.inl x3), some (.inl x103), some (.inl (x5 + (1 : Int32)))] [] s101))
set_option maxRecDepth 100000 in
set_option maxHeartbeats 4000000 in
theorem bM_M_hidden_31_e (C : Nat → List zV → zS → zR) (J : Nat → zL → List zV → zS → zR) (x1 : Int32) (x3 : Int32) (x4 : Int32) (x5 : Int32) (s : zS) : zline skM C J zT_M_hidden 1 500 (zT_M_hidden.drop 31) [some (.inr (.inr 0)), some (.inl x1), none, some (.inl x3), some (.inl x4), some (.inl x5)] [] s = bM_M_hidden_31 C J x1 x3 x4 x5 s := rfl
def bM_M_slotOf_0 (C : Nat → List zV → zS → zR) (J : Nat → zL → List zV → zS → zR) (x1 : Int32) (x2 : Int32) (x3 : Int32) (s : zS) : zR :=
  zcI (C 129 [.inr (.inr 0), .inl x1] s) fun r102 s101 =>
  if r102 = 0 then (
    some (some (.inl (0 : Int32)), s101))
  else (
    zcI (C 130 [.inl x2] s101) fun r104 s103 =>
    if r104 = 0 then (
      some (some (.inl (0 : Int32)), s103))
    else (
      zin x1 16 <|
      zcI (C 131 [.inl (zg s103 6 (Int32.toNatClampNeg x1)), .inl x2] s103) fun r106 s105 =>
      if ¬ r106 = 0 then (
        if x3 = (0 : Int32) then (
          zin x1 16 <|
          some (some (.inl (((zg s105 7 (Int32.toNatClampNeg x1)) >>> (x2 &&& 31)) &&& (1 : Int32))), s105))
        else (
        if x3 = ((0 : Int32) + 1) then (
          zin (((16 : Int32) * x1) + x2) 256 <|
          some (some (.inl (zg s105 8 (Int32.toNatClampNeg (((16 : Int32) * x1) + x2)))), s105))
        else (
        if x3 = (((0 : Int32) + 1) + 1) then (
          zin (((16 : Int32) * x1) + x2) 256 <|
          some (some (.inl (zg s105 9 (Int32.toNatClampNeg (((16 : Int32) * x1) + x2)))), s105))
        else (
          some (some (.inl (0 : Int32)), s105)))))
      else (
        some (some (.inl (0 : Int32)), s105))))
set_option maxRecDepth 100000 in
set_option maxHeartbeats 4000000 in
theorem bM_M_slotOf_0_e (C : Nat → List zV → zS → zR) (J : Nat → zL → List zV → zS → zR) (x1 : Int32) (x2 : Int32) (x3 : Int32) (s : zS) : zline skM C J zT_M_slotOf 1 500 (zT_M_slotOf.drop 0) [some (.inr (.inr 0)), some (.inl x1), some (.inl x2), some (.inl x3)] [] s = bM_M_slotOf_0 C J x1 x2 x3 s := rfl
def bM_M_send_0 (C : Nat → List zV → zS → zR) (J : Nat → zL → List zV → zS → zR) (x1 : Int32) (x2 : Int32) (x3 : Int32) (s : zS) : zR :=
  zcI (C 129 [.inr (.inr 0), .inl x1] s) fun r102 s101 =>
  if r102 = 0 then (
    zcI (C 126 [.inr (.inr 0), .inl (-1 : Int32)] s101) fun r104 s103 =>
    some (some (.inl r104), s103))
  else (
    zcI (C 130 [.inl x2] s101) fun r106 s105 =>
    if ¬ r106 = 0 then (
      let s107 : zS := zs s105 0 29 (0 : Int32)
      zcV (C 187 [.inr (.inr 0), .inl x1] s107) fun s108 =>
      zcI (C 179 [.inr (.inr 0), .inl x2, .inl x3] s108) fun r110 s109 =>
      zcI (C 188 [.inr (.inr 0), .inl r110] s109) fun r112 s111 =>
      let s113 : zS := zs s111 0 30 r112
      let s114 : zS := zs s113 0 31 (zg s111 0 29)
      some (some (.inl (zg s111 0 28)), s114))
    else (
      zcI (C 126 [.inr (.inr 0), .inl (-1 : Int32)] s105) fun r116 s115 =>
      some (some (.inl r116), s115)))
set_option maxRecDepth 100000 in
set_option maxHeartbeats 4000000 in
theorem bM_M_send_0_e (C : Nat → List zV → zS → zR) (J : Nat → zL → List zV → zS → zR) (x1 : Int32) (x2 : Int32) (x3 : Int32) (s : zS) : zline skM C J zT_M_send 1 500 (zT_M_send.drop 0) [some (.inr (.inr 0)), some (.inl x1), some (.inl x2), some (.inl x3)] [] s = bM_M_send_0 C J x1 x2 x3 s := rfl
def bM_M_begins_0 (C : Nat → List zV → zS → zR) (J : Nat → zL → List zV → zS → zR) (x1 : Int32) (s : zS) : zR :=
  let s101 : zS := zs s 0 38 x1
  let s102 : zS := zs s101 0 28 (0 : Int32)
  let s103 : zS := zs s102 0 33 (0 : Int32)
  zcV (C 209 [.inr (.inr 0), .inr (.inr 25)] s103) fun s104 =>
  some (none, s104)
set_option maxRecDepth 100000 in
set_option maxHeartbeats 4000000 in
theorem bM_M_begins_0_e (C : Nat → List zV → zS → zR) (J : Nat → zL → List zV → zS → zR) (x1 : Int32) (s : zS) : zline skM C J zT_M_begins 0 500 (zT_M_begins.drop 0) [some (.inr (.inr 0)), some (.inl x1)] [] s = bM_M_begins_0 C J x1 s := rfl
def bM_M_keepSlots_0 (C : Nat → List zV → zS → zR) (J : Nat → zL → List zV → zS → zR) (s : zS) : zR :=
  J 2 [some (.inr (.inr 0)), some (.inr (.inr 25)), some (.inl (0 : Int32))] [] s
set_option maxRecDepth 100000 in
set_option maxHeartbeats 4000000 in
theorem bM_M_keepSlots_0_e (C : Nat → List zV → zS → zR) (J : Nat → zL → List zV → zS → zR) (s : zS) : zline skM C J zT_M_keepSlots 0 500 (zT_M_keepSlots.drop 0) [some (.inr (.inr 0)), some (.inr (.inr 25)), none] [] s = bM_M_keepSlots_0 C J s := rfl
def bM_M_keepSlots_2 (C : Nat → List zV → zS → zR) (J : Nat → zL → List zV → zS → zR) (x2 : Int32) (s : zS) : zR :=
  if (16 : Int32) ≤ x2 then (
    J 25 [some (.inr (.inr 0)), some (.inr (.inr 25)), some (.inl (0 : Int32))] [] s)
  else (
    zin x2 16 <|
    zin x2 1108 <|
    let s101 : zS := zs s 25 (Int32.toNatClampNeg x2) (zg s 6 (Int32.toNatClampNeg x2))
    zin x2 16 <|
    zin ((16 : Int32) + x2) 1108 <|
    let s102 : zS := zs s101 25 (Int32.toNatClampNeg ((16 : Int32) + x2)) (zg s 7 (Int32.toNatClampNeg x2))
    J 2 [some (.inr (.inr 0)), some (.inr (.inr 25)), some (.inl (x2 + (1 : Int32)))] [] s102)
set_option maxRecDepth 100000 in
set_option maxHeartbeats 4000000 in
theorem bM_M_keepSlots_2_e (C : Nat → List zV → zS → zR) (J : Nat → zL → List zV → zS → zR) (x2 : Int32) (s : zS) : zline skM C J zT_M_keepSlots 0 500 (zT_M_keepSlots.drop 2) [some (.inr (.inr 0)), some (.inr (.inr 25)), some (.inl x2)] [] s = bM_M_keepSlots_2 C J x2 s := rfl
def bM_M_keepSlots_25 (C : Nat → List zV → zS → zR) (J : Nat → zL → List zV → zS → zR) (x2 : Int32) (s : zS) : zR :=
  if (256 : Int32) ≤ x2 then (
    some (none, s))
  else (
    zin x2 256 <|
    zin ((32 : Int32) + x2) 1108 <|
    let s101 : zS := zs s 25 (Int32.toNatClampNeg ((32 : Int32) + x2)) (zg s 8 (Int32.toNatClampNeg x2))
    zin x2 256 <|
    zin ((288 : Int32) + x2) 1108 <|
    let s102 : zS := zs s101 25 (Int32.toNatClampNeg ((288 : Int32) + x2)) (zg s 9 (Int32.toNatClampNeg x2))
    J 25 [some (.inr (.inr 0)), some (.inr (.inr 25)), some (.inl (x2 + (1 : Int32)))] [] s102)
set_option maxRecDepth 100000 in
set_option maxHeartbeats 4000000 in
theorem bM_M_keepSlots_25_e (C : Nat → List zV → zS → zR) (J : Nat → zL → List zV → zS → zR) (x2 : Int32) (s : zS) : zline skM C J zT_M_keepSlots 0 500 (zT_M_keepSlots.drop 25) [some (.inr (.inr 0)), some (.inr (.inr 25)), some (.inl x2)] [] s = bM_M_keepSlots_25 C J x2 s := rfl
def bM_M_sends_0 (C : Nat → List zV → zS → zR) (J : Nat → zL → List zV → zS → zR) (x1 : Int32) (x2 : Int32) (s : zS) : zR :=
  zcI (C 168 [.inr (.inr 0), .inl (zg s 0 38), .inl x1, .inl (0 : Int32)] s) fun r102 s101 =>
  zcI (C 180 [.inr (.inr 0), .inl x1, .inl r102, .inl x2] s101) fun r104 s103 =>
  some (some (.inl r104), s103)
set_option maxRecDepth 100000 in
set_option maxHeartbeats 4000000 in
theorem bM_M_sends_0_e (C : Nat → List zV → zS → zR) (J : Nat → zL → List zV → zS → zR) (x1 : Int32) (x2 : Int32) (s : zS) : zline skM C J zT_M_sends 1 500 (zT_M_sends.drop 0) [some (.inr (.inr 0)), some (.inl x1), some (.inl x2)] [] s = bM_M_sends_0 C J x1 x2 s := rfl
def bM_M_gives_0 (C : Nat → List zV → zS → zR) (J : Nat → zL → List zV → zS → zR) (x1 : Int32) (x2 : Int32) (x3 : Int32) (s : zS) : zR :=
  if ¬ x2 = (-1 : Int32) then (
    zin (((16 : Int32) * (zg s 0 38)) + x2) 256 <|
    let x101 : Int32 := (zg s 5 (Int32.toNatClampNeg (((16 : Int32) * (zg s 0 38)) + x2)))
    zin x101 16 <|
    zcI (C 131 [.inl (zg s 7 (Int32.toNatClampNeg x101)), .inl x1] s) fun r103 s102 =>
    if r103 = 0 then (
      zin (((16 : Int32) * x101) + x1) 256 <|
      some (some (.inl (zg s102 9 (Int32.toNatClampNeg (((16 : Int32) * x101) + x1)))), s102))
    else (
      zin (((16 : Int32) * x101) + x1) 256 <|
      zin (((16 : Int32) * x101) + x1) 256 <|
      zcI (C 183 [.inr (.inr 0), .inl (zg s102 8 (Int32.toNatClampNeg (((16 : Int32) * x101) + x1))), .inl (zg s102 9 (Int32.toNatClampNeg (((16 : Int32) * x101) + x1))), .inl x3, .inl (0 : Int32), .inl x1, .inl x2] s102) fun r105 s104 =>
      some (some (.inl r105), s104)))
  else (
    zcI (C 177 [.inr (.inr 0)] s) fun r107 s106 =>
    some (some (.inl r107), s106))
set_option maxRecDepth 100000 in
set_option maxHeartbeats 4000000 in
theorem bM_M_gives_0_e (C : Nat → List zV → zS → zR) (J : Nat → zL → List zV → zS → zR) (x1 : Int32) (x2 : Int32) (x3 : Int32) (s : zS) : zline skM C J zT_M_gives 1 500 (zT_M_gives.drop 0) [some (.inr (.inr 0)), some (.inl x1), some (.inl x2), some (.inl x3), none, none] [] s = bM_M_gives_0 C J x1 x2 x3 s := rfl
def bM_M_fails_0 (C : Nat → List zV → zS → zR) (J : Nat → zL → List zV → zS → zR) (s : zS) : zR :=
  let s101 : zS := zs s 0 28 (1 : Int32)
  some (some (.inl (0 : Int32)), s101)
set_option maxRecDepth 100000 in
set_option maxHeartbeats 4000000 in
theorem bM_M_fails_0_e (C : Nat → List zV → zS → zR) (J : Nat → zL → List zV → zS → zR) (s : zS) : zline skM C J zT_M_fails 1 500 (zT_M_fails.drop 0) [some (.inr (.inr 0))] [] s = bM_M_fails_0 C J s := rfl
def bM_M_runs_0 (C : Nat → List zV → zS → zR) (J : Nat → zL → List zV → zS → zR) (x1 : Int32) (x2 : Int32) (x3 : Int32) (x4 : Int32) (x5 : Int32) (x6 : Int32) (s : zS) : zR :=
  if ¬ (zg s 0 29) = (200 : Int32) then (
    let s101 : zS := zs s 0 29 ((zg s 0 29) + (1 : Int32))
    if x1 = (0 : Int32) then (
      some (some (.inl (x3 + x2)), s101))
    else (
    if x1 = ((0 : Int32) + 1) then (
      some (some (.inl (x3 * x2)), s101))
    else (
    if x1 = (((0 : Int32) + 1) + 1) then (
      zcI (C 181 [.inr (.inr 0), .inl x4, .inl x5, .inl x6, .inl (x3 + x2)] s101) fun r103 s102 =>
      some (some (.inl r103), s102))
    else (
    if x1 = ((((0 : Int32) + 1) + 1) + 1) then (
      zcI (C 181 [.inr (.inr 0), .inl x4, .inl x5, .inl x6, .inl x3] s101) fun r105 s104 =>
      if ¬ (zg s104 0 28) = 0 then (
        some (some (.inl (0 : Int32)), s104))
      else (
        zcI (C 181 [.inr (.inr 0), .inl x4, .inl x5, .inl x6, .inl r105] s104) fun r107 s106 =>
        some (some (.inl r107), s106)))
    else (
    if x1 = (((((0 : Int32) + 1) + 1) + 1) + 1) then (
      zcI (C 178 [.inl x2] s101) fun r109 s108 =>
      zcI (C 179 [.inr (.inr 0), .inl r109, .inl x3] s108) fun r111 s110 =>
      some (some (.inl r111), s110))
    else (
    if x1 = ((((((0 : Int32) + 1) + 1) + 1) + 1) + 1) then (
      zcI (C 178 [.inl x2] s101) fun r113 s112 =>
      zcI (C 179 [.inr (.inr 0), .inl r113, .inl (0 : Int32)] s112) fun r115 s114 =>
      some (some (.inl (x3 + r115)), s114))
    else (
    if x1 = (((((((0 : Int32) + 1) + 1) + 1) + 1) + 1) + 1) then (
      zcI (C 178 [.inl x2] s101) fun r117 s116 =>
      zcI (C 182 [.inr (.inr 0), .inl r117, .inl x3] s116) fun r119 s118 =>
      some (some (.inl r119), s118))
    else (
    if x1 = ((((((((0 : Int32) + 1) + 1) + 1) + 1) + 1) + 1) + 1) then (
      if x3 < x2 then (
        zcI (C 181 [.inr (.inr 0), .inl x4, .inl x5, .inl x6, .inl x3] s101) fun r121 s120 =>
        some (some (.inl r121), s120))
      else (
        some (some (.inl x3), s101)))
    else (
    if x1 = (((((((((0 : Int32) + 1) + 1) + 1) + 1) + 1) + 1) + 1) + 1) then (
      some (some (.inl (((zg s 0 29) + (1 : Int32)) + x3)), s101))
    else (
      zcI (C 181 [.inr (.inr 0), .inl x4, .inl x5, .inl x6, .inl x3] s101) fun r123 s122 =>
      if (zg s122 0 28) = (1 : Int32) then (
        let s124 : zS := zs s122 0 28 (0 : Int32)
        some (some (.inl x2), s124))
      else (
        some (some (.inl r123), s122))))))))))))
  else (
    let s125 : zS := zs s 0 28 (2 : Int32)
    some (some (.inl (0 : Int32)), s125))
set_option maxRecDepth 100000 in
set_option maxHeartbeats 4000000 in
theorem bM_M_runs_0_e (C : Nat → List zV → zS → zR) (J : Nat → zL → List zV → zS → zR) (x1 : Int32) (x2 : Int32) (x3 : Int32) (x4 : Int32) (x5 : Int32) (x6 : Int32) (s : zS) : zline skM C J zT_M_runs 1 500 (zT_M_runs.drop 0) [some (.inr (.inr 0)), some (.inl x1), some (.inl x2), some (.inl x3), some (.inl x4), some (.inl x5), some (.inl x6), none, none] [] s = bM_M_runs_0 C J x1 x2 x3 x4 x5 x6 s := rfl
def bM_M_next2_0 (C : Nat → List zV → zS → zR) (J : Nat → zL → List zV → zS → zR) (x1 : Int32) (x2 : Int32) (x3 : Int32) (x4 : Int32) (s : zS) : zR :=
  if x1 = (0 : Int32) then (
    zcI (C 168 [.inr (.inr 0), .inl (zg s 0 38), .inl x2, .inl (x3 + (1 : Int32))] s) fun r102 s101 =>
    zcI (C 180 [.inr (.inr 0), .inl x2, .inl r102, .inl x4] s101) fun r104 s103 =>
    some (some (.inl r104), s103))
  else (
  if x1 = ((0 : Int32) + 1) then (
    if (zg s 23 3) ≤ (x3 + (1 : Int32)) then (
      zcI (C 186 [.inr (.inr 0), .inl x4] s) fun r106 s105 =>
      some (some (.inl r106), s105))
    else (
      zcI (C 185 [.inr (.inr 0), .inl (3 : Int32), .inl (x3 + (1 : Int32)), .inl x4, .inl (1 : Int32)] s) fun r108 s107 =>
      some (some (.inl r108), s107)))
  else (
  if x1 = (((0 : Int32) + 1) + 1) then (
    if (zg s 23 0) ≤ (x3 + (1 : Int32)) then (
      zcI (C 177 [.inr (.inr 0)] s) fun r110 s109 =>
      some (some (.inl r110), s109))
    else (
      zcI (C 185 [.inr (.inr 0), .inl (0 : Int32), .inl (x3 + (1 : Int32)), .inl x4, .inl (2 : Int32)] s) fun r112 s111 =>
      some (some (.inl r112), s111)))
  else (
    zcI (C 177 [.inr (.inr 0)] s) fun r114 s113 =>
    some (some (.inl r114), s113))))
set_option maxRecDepth 100000 in
set_option maxHeartbeats 4000000 in
theorem bM_M_next2_0_e (C : Nat → List zV → zS → zR) (J : Nat → zL → List zV → zS → zR) (x1 : Int32) (x2 : Int32) (x3 : Int32) (x4 : Int32) (s : zS) : zline skM C J zT_M_next2 1 500 (zT_M_next2.drop 0) [some (.inr (.inr 0)), some (.inl x1), some (.inl x2), some (.inl x3), some (.inl x4)] [] s = bM_M_next2_0 C J x1 x2 x3 x4 s := rfl
def bM_M_core_0 (C : Nat → List zV → zS → zR) (J : Nat → zL → List zV → zS → zR) (x1 : Int32) (s : zS) : zR :=
  if ¬ (zg s 23 0) = 0 then (
    J 10 [some (.inr (.inr 0)), some (.inl x1), some (.inl (0 : Int32)), none] [] s)
  else (
    zcI (C 177 [.inr (.inr 0)] s) fun r102 s101 =>
    some (some (.inl r102), s101))
set_option maxRecDepth 100000 in
set_option maxHeartbeats 4000000 in
theorem bM_M_core_0_e (C : Nat → List zV → zS → zR) (J : Nat → zL → List zV → zS → zR) (x1 : Int32) (s : zS) : zline skM C J zT_M_core 1 500 (zT_M_core.drop 0) [some (.inr (.inr 0)), some (.inl x1), none, none] [] s = bM_M_core_0 C J x1 s := rfl
def bM_M_core_10 (C : Nat → List zV → zS → zR) (J : Nat → zL → List zV → zS → zR) (x1 : Int32) (x2 : Int32) (s : zS) : zR :=
  if (zg s 23 1) ≤ x2 then (
    if ¬ (zg s 0 28) = 0 then (
      J 47 [some (.inr (.inr 0)), none, some (.inl (0 : Int32)), some (.inl ((zg s 23 2) - (1 : Int32)))] [] s)
    else (
      zcI (C 185 [.inr (.inr 0), .inl (0 : Int32), .inl (0 : Int32), .inl x1, .inl (2 : Int32)] s) fun r102 s101 =>
      J 47 [some (.inr (.inr 0)), none, some (.inl r102), some (.inl ((zg s101 23 2) - (1 : Int32)))] [] s101))
  else (
    if ¬ (zg s 0 28) = 0 then (
      if ¬ (zg s 0 28) = 0 then (
        J 47 [some (.inr (.inr 0)), none, some (.inl (0 : Int32)), some (.inl ((zg s 23 2) - (1 : Int32)))] [] s)
      else (
        zcI (C 185 [.inr (.inr 0), .inl (0 : Int32), .inl (0 : Int32), .inl x1, .inl (2 : Int32)] s) fun r104 s103 =>
        J 47 [some (.inr (.inr 0)), none, some (.inl r104), some (.inl ((zg s103 23 2) - (1 : Int32)))] [] s103))
    else (
      zcI (C 185 [.inr (.inr 0), .inl (1 : Int32), .inl x2, .inl x1, .inl (3 : Int32)] s) fun r106 s105 =>
      J 10 [some (.inr (.inr 0)), some (.inl x1), some (.inl (x2 + (1 : Int32))), none] [] s105))
set_option maxRecDepth 100000 in
set_option maxHeartbeats 4000000 in
theorem bM_M_core_10_e (C : Nat → List zV → zS → zR) (J : Nat → zL → List zV → zS → zR) (x1 : Int32) (x2 : Int32) (s : zS) : zline skM C J zT_M_core 1 500 (zT_M_core.drop 10) [some (.inr (.inr 0)), some (.inl x1), some (.inl x2), none] [] s = bM_M_core_10 C J x1 x2 s := rfl
def bM_M_core_47 (C : Nat → List zV → zS → zR) (J : Nat → zL → List zV → zS → zR) (x2 : Int32) (x3 : Int32) (s : zS) : zR :=
  if x3 < 0 then (
    some (some (.inl x2), s))
  else (
    if ¬ (zg s 0 28) = 0 then (
      some (some (.inl x2), s))
    else (
      zcI (C 185 [.inr (.inr 0), .inl (2 : Int32), .inl x3, .inl x2, .inl (3 : Int32)] s) fun r102 s101 =>
      J 47 [some (.inr (.inr 0)), none, some (.inl x2), some (.inl (x3 + (-1 : Int32)))] [] s101))
set_option maxRecDepth 100000 in
set_option maxHeartbeats 4000000 in
theorem bM_M_core_47_e (C : Nat → List zV → zS → zR) (J : Nat → zL → List zV → zS → zR) (x2 : Int32) (x3 : Int32) (s : zS) : zline skM C J zT_M_core 1 500 (zT_M_core.drop 47) [some (.inr (.inr 0)), none, some (.inl x2), some (.inl x3)] [] s = bM_M_core_47 C J x2 x3 s := rfl
def bM_M_goes_0 (C : Nat → List zV → zS → zR) (J : Nat → zL → List zV → zS → zR) (x1 : Int32) (x2 : Int32) (x3 : Int32) (x4 : Int32) (s : zS) : zR :=
  zin (((32 : Int32) * x1) + x2) 128 <|
  let x101 : Int32 := (zg s 22 (Int32.toNatClampNeg (((32 : Int32) * x1) + x2)))
  if (200 : Int32) ≤ (zg s 0 29) then (
    zcI (C 184 [.inr (.inr 0), .inl (4 : Int32), .inl x101] s) fun r103 s102 =>
    zcI (C 184 [.inr (.inr 0), .inl (5 : Int32), .inl x101] s102) fun r105 s104 =>
    zcI (C 183 [.inr (.inr 0), .inl r103, .inl r105, .inl x3, .inl x4, .inl (0 : Int32), .inl x2] s104) fun r107 s106 =>
    some (some (.inl r107), s106))
  else (
    if (30 : Int32) ≤ (zg s 0 33) then (
      let s108 : zS := zs s 0 33 ((zg s 0 33) + (1 : Int32))
      zcI (C 184 [.inr (.inr 0), .inl (4 : Int32), .inl x101] s108) fun r110 s109 =>
      zcI (C 184 [.inr (.inr 0), .inl (5 : Int32), .inl x101] s109) fun r112 s111 =>
      zcI (C 183 [.inr (.inr 0), .inl r110, .inl r112, .inl x3, .inl x4, .inl (0 : Int32), .inl x2] s111) fun r114 s113 =>
      some (some (.inl r114), s113))
    else (
      zin (zg s 0 33) 30 <|
      let s115 : zS := zs s 20 (Int32.toNatClampNeg (zg s 0 33)) x101
      let s116 : zS := zs s115 0 33 ((zg s 0 33) + (1 : Int32))
      zcI (C 184 [.inr (.inr 0), .inl (4 : Int32), .inl x101] s116) fun r118 s117 =>
      zcI (C 184 [.inr (.inr 0), .inl (5 : Int32), .inl x101] s117) fun r120 s119 =>
      zcI (C 183 [.inr (.inr 0), .inl r118, .inl r120, .inl x3, .inl x4, .inl (0 : Int32), .inl x2] s119) fun r122 s121 =>
      some (some (.inl r122), s121)))
set_option maxRecDepth 100000 in
set_option maxHeartbeats 4000000 in
theorem bM_M_goes_0_e (C : Nat → List zV → zS → zR) (J : Nat → zL → List zV → zS → zR) (x1 : Int32) (x2 : Int32) (x3 : Int32) (x4 : Int32) (s : zS) : zline skM C J zT_M_goes 1 500 (zT_M_goes.drop 0) [some (.inr (.inr 0)), some (.inl x1), some (.inl x2), some (.inl x3), some (.inl x4), none] [] s = bM_M_goes_0 C J x1 x2 x3 x4 s := rfl
def bM_M_way_0 (C : Nat → List zV → zS → zR) (J : Nat → zL → List zV → zS → zR) (x1 : Int32) (x2 : Int32) (s : zS) : zR :=
  zin (((32 : Int32) * x1) + x2) 192 <|
  some (some (.inl (zg s 10 (Int32.toNatClampNeg (((32 : Int32) * x1) + x2)))), s)
set_option maxRecDepth 100000 in
set_option maxHeartbeats 4000000 in
theorem bM_M_way_0_e (C : Nat → List zV → zS → zR) (J : Nat → zL → List zV → zS → zR) (x1 : Int32) (x2 : Int32) (s : zS) : zline skM C J zT_M_way 1 500 (zT_M_way.drop 0) [some (.inr (.inr 0)), some (.inl x1), some (.inl x2)] [] s = bM_M_way_0 C J x1 x2 s := rfl
def bM_M_slotOf2_0 (C : Nat → List zV → zS → zR) (J : Nat → zL → List zV → zS → zR) (x0 : Int32) (s : zS) : zR :=
  some (some (.inl (x0 &&& (15 : Int32))), s)
set_option maxRecDepth 100000 in
set_option maxHeartbeats 4000000 in
theorem bM_M_slotOf2_0_e (C : Nat → List zV → zS → zR) (J : Nat → zL → List zV → zS → zR) (x0 : Int32) (s : zS) : zline skM C J zT_M_slotOf2 1 500 (zT_M_slotOf2.drop 0) [some (.inl x0)] [] s = bM_M_slotOf2_0 C J x0 s := rfl
def bM_M_sets_0 (C : Nat → List zV → zS → zR) (J : Nat → zL → List zV → zS → zR) (x1 : Int32) (x2 : Int32) (s : zS) : zR :=
  zin (zg s 0 38) 16 <|
  if (zg s 1 (Int32.toNatClampNeg (zg s 0 38))) = (1 : Int32) then (
    zcI (C 177 [.inr (.inr 0)] s) fun r102 s101 =>
    some (some (.inl r102), s101))
  else (
    zin (zg s 0 38) 16 <|
    if ¬ (zg s 1 (Int32.toNatClampNeg (zg s 0 38))) = (3 : Int32) then (
      zcV (C 162 [.inr (.inr 0), .inl (zg s 0 38), .inl x1, .inl (0 : Int32), .inl (0 : Int32), .inl x2] s) fun s103 =>
      some (some (.inl x2), s103))
    else (
      zcI (C 177 [.inr (.inr 0)] s) fun r105 s104 =>
      some (some (.inl r105), s104)))
set_option maxRecDepth 100000 in
set_option maxHeartbeats 4000000 in
theorem bM_M_sets_0_e (C : Nat → List zV → zS → zR) (J : Nat → zL → List zV → zS → zR) (x1 : Int32) (x2 : Int32) (s : zS) : zline skM C J zT_M_sets 1 500 (zT_M_sets.drop 0) [some (.inr (.inr 0)), some (.inl x1), some (.inl x2)] [] s = bM_M_sets_0 C J x1 x2 s := rfl
def bM_M_done_0 (C : Nat → List zV → zS → zR) (J : Nat → zL → List zV → zS → zR) (x1 : Int32) (s : zS) : zR :=
  if ¬ (zg s 0 28) = 0 then (
    zcV (C 210 [.inr (.inr 0), .inr (.inr 25)] s) fun s101 =>
    some (some (.inl (0 : Int32)), s101))
  else (
    some (some (.inl x1), s))
set_option maxRecDepth 100000 in
set_option maxHeartbeats 4000000 in
theorem bM_M_done_0_e (C : Nat → List zV → zS → zR) (J : Nat → zL → List zV → zS → zR) (x1 : Int32) (s : zS) : zline skM C J zT_M_done 1 500 (zT_M_done.drop 0) [some (.inr (.inr 0)), some (.inl x1)] [] s = bM_M_done_0 C J x1 s := rfl
def bM_M_slotsAgain_0 (C : Nat → List zV → zS → zR) (J : Nat → zL → List zV → zS → zR) (s : zS) : zR :=
  J 2 [some (.inr (.inr 0)), some (.inr (.inr 25)), some (.inl (0 : Int32))] [] s
set_option maxRecDepth 100000 in
set_option maxHeartbeats 4000000 in
theorem bM_M_slotsAgain_0_e (C : Nat → List zV → zS → zR) (J : Nat → zL → List zV → zS → zR) (s : zS) : zline skM C J zT_M_slotsAgain 0 500 (zT_M_slotsAgain.drop 0) [some (.inr (.inr 0)), some (.inr (.inr 25)), none] [] s = bM_M_slotsAgain_0 C J s := rfl
def bM_M_slotsAgain_2 (C : Nat → List zV → zS → zR) (J : Nat → zL → List zV → zS → zR) (x2 : Int32) (s : zS) : zR :=
  if (16 : Int32) ≤ x2 then (
    J 25 [some (.inr (.inr 0)), some (.inr (.inr 25)), some (.inl (0 : Int32))] [] s)
  else (
    zin x2 1108 <|
    zin x2 16 <|
    let s101 : zS := zs s 6 (Int32.toNatClampNeg x2) (zg s 25 (Int32.toNatClampNeg x2))
    zin ((16 : Int32) + x2) 1108 <|
    zin x2 16 <|
    let s102 : zS := zs s101 7 (Int32.toNatClampNeg x2) (zg s 25 (Int32.toNatClampNeg ((16 : Int32) + x2)))
    J 2 [some (.inr (.inr 0)), some (.inr (.inr 25)), some (.inl (x2 + (1 : Int32)))] [] s102)
set_option maxRecDepth 100000 in
set_option maxHeartbeats 4000000 in
theorem bM_M_slotsAgain_2_e (C : Nat → List zV → zS → zR) (J : Nat → zL → List zV → zS → zR) (x2 : Int32) (s : zS) : zline skM C J zT_M_slotsAgain 0 500 (zT_M_slotsAgain.drop 2) [some (.inr (.inr 0)), some (.inr (.inr 25)), some (.inl x2)] [] s = bM_M_slotsAgain_2 C J x2 s := rfl
def bM_M_slotsAgain_25 (C : Nat → List zV → zS → zR) (J : Nat → zL → List zV → zS → zR) (x2 : Int32) (s : zS) : zR :=
  if (256 : Int32) ≤ x2 then (
    some (none, s))
  else (
    zin ((32 : Int32) + x2) 1108 <|
    zin x2 256 <|
    let s101 : zS := zs s 8 (Int32.toNatClampNeg x2) (zg s 25 (Int32.toNatClampNeg ((32 : Int32) + x2)))
    zin ((288 : Int32) + x2) 1108 <|
    zin x2 256 <|
    let s102 : zS := zs s101 9 (Int32.toNatClampNeg x2) (zg s 25 (Int32.toNatClampNeg ((288 : Int32) + x2)))
    J 25 [some (.inr (.inr 0)), some (.inr (.inr 25)), some (.inl (x2 + (1 : Int32)))] [] s102)
set_option maxRecDepth 100000 in
set_option maxHeartbeats 4000000 in
theorem bM_M_slotsAgain_25_e (C : Nat → List zV → zS → zR) (J : Nat → zL → List zV → zS → zR) (x2 : Int32) (s : zS) : zline skM C J zT_M_slotsAgain 0 500 (zT_M_slotsAgain.drop 25) [some (.inr (.inr 0)), some (.inr (.inr 25)), some (.inl x2)] [] s = bM_M_slotsAgain_25 C J x2 s := rfl
def bM_M_given_0 (C : Nat → List zV → zS → zR) (J : Nat → zL → List zV → zS → zR) (s : zS) : zR :=
  some (some (.inl (zg s 0 30)), s)
set_option maxRecDepth 100000 in
set_option maxHeartbeats 4000000 in
theorem bM_M_given_0_e (C : Nat → List zV → zS → zR) (J : Nat → zL → List zV → zS → zR) (s : zS) : zline skM C J zT_M_given 1 500 (zT_M_given.drop 0) [some (.inr (.inr 0))] [] s = bM_M_given_0 C J s := rfl
def bM_M_trial_0 (C : Nat → List zV → zS → zR) (J : Nat → zL → List zV → zS → zR) (x1 : Int32) (x2 : Int32) (x3 : Int32) (x4 : Int32) (s : zS) : zR :=
  zcI (C 129 [.inr (.inr 0), .inl x1] s) fun r102 s101 =>
  if r102 = 0 then (
    zcI (C 126 [.inr (.inr 0), .inl (-1 : Int32)] s101) fun r104 s103 =>
    some (some (.inl r104), s103))
  else (
    zcI (C 130 [.inl x2] s101) fun r106 s105 =>
    if ¬ r106 = 0 then (
      zcI (C 128 [.inl x4, .inl (0 : Int32), .inl (1 : Int32)] s105) fun r108 s107 =>
      if ¬ r108 = 0 then (
        let s109 : zS := zs s107 0 29 (0 : Int32)
        zcI (C 191 [.inr (.inr 0), .inl x1, .inl x2, .inl x3] s109) fun r111 s110 =>
        if ¬ x4 = 0 then (
          some (some (.inl (zg s110 0 29)), s110))
        else (
          some (some (.inl (zg s110 0 28)), s110)))
      else (
        zcI (C 126 [.inr (.inr 0), .inl (-5 : Int32)] s107) fun r113 s112 =>
        some (some (.inl r113), s112)))
    else (
      zcI (C 126 [.inr (.inr 0), .inl (-1 : Int32)] s105) fun r115 s114 =>
      some (some (.inl r115), s114)))
set_option maxRecDepth 100000 in
set_option maxHeartbeats 4000000 in
theorem bM_M_trial_0_e (C : Nat → List zV → zS → zR) (J : Nat → zL → List zV → zS → zR) (x1 : Int32) (x2 : Int32) (x3 : Int32) (x4 : Int32) (s : zS) : zline skM C J zT_M_trial 1 500 (zT_M_trial.drop 0) [some (.inr (.inr 0)), some (.inl x1), some (.inl x2), some (.inl x3), some (.inl x4)] [] s = bM_M_trial_0 C J x1 x2 x3 x4 s := rfl
def bM_M_tries_0 (C : Nat → List zV → zS → zR) (J : Nat → zL → List zV → zS → zR) (x1 : Int32) (x2 : Int32) (x3 : Int32) (s : zS) : zR :=
  zcV (C 187 [.inr (.inr 0), .inl x1] s) fun s101 =>
  zcI (C 179 [.inr (.inr 0), .inl x2, .inl x3] s101) fun r103 s102 =>
  zcV (C 210 [.inr (.inr 0), .inr (.inr 25)] s102) fun s104 =>
  some (some (.inl r103), s104)
set_option maxRecDepth 100000 in
set_option maxHeartbeats 4000000 in
theorem bM_M_tries_0_e (C : Nat → List zV → zS → zR) (J : Nat → zL → List zV → zS → zR) (x1 : Int32) (x2 : Int32) (x3 : Int32) (s : zS) : zline skM C J zT_M_tries 1 500 (zT_M_tries.drop 0) [some (.inr (.inr 0)), some (.inl x1), some (.inl x2), some (.inl x3), none] [] s = bM_M_tries_0 C J x1 x2 x3 s := rfl
def bM_M_way2_0 (C : Nat → List zV → zS → zR) (J : Nat → zL → List zV → zS → zR) (x1 : Int32) (x2 : Int32) (x3 : Int32) (x4 : Int32) (x5 : Int32) (x6 : Int32) (s : zS) : zR :=
  zcI (C 193 [.inl x1] s) fun r102 s101 =>
  if r102 = 0 then (
    zcI (C 126 [.inr (.inr 0), .inl (-1 : Int32)] s101) fun r104 s103 =>
    some (some (.inl r104), s103))
  else (
    zcI (C 129 [.inr (.inr 0), .inl x2] s101) fun r106 s105 =>
    if r106 = 0 then (
      zcI (C 126 [.inr (.inr 0), .inl (-1 : Int32)] s105) fun r108 s107 =>
      some (some (.inl r108), s107))
    else (
      zcI (C 129 [.inr (.inr 0), .inl x3] s105) fun r110 s109 =>
      if ¬ r110 = 0 then (
        zcI (C 128 [.inl x4, .inl (0 : Int32), .inl (3 : Int32)] s109) fun r112 s111 =>
        if r112 = 0 then (
          zcI (C 126 [.inr (.inr 0), .inl (-6 : Int32)] s111) fun r114 s113 =>
          some (some (.inl r114), s113))
        else (
          zcI (C 128 [.inl x5, .inl (0 : Int32), .inl (9 : Int32)] s111) fun r116 s115 =>
          if r116 = 0 then (
            zcI (C 126 [.inr (.inr 0), .inl (-6 : Int32)] s115) fun r118 s117 =>
            some (some (.inl r118), s117))
          else (
            zcI (C 128 [.inl x6, .inl (-99 : Int32), .inl (99 : Int32)] s115) fun r120 s119 =>
            if ¬ r120 = 0 then (
              if ¬ (zg s119 0 10) = (32 : Int32) then (
                zin (zg s119 0 10) 192 <|
                let s121 : zS := zs s119 10 (Int32.toNatClampNeg (zg s119 0 10)) x1
                zin ((32 : Int32) + (zg s119 0 10)) 192 <|
                let s122 : zS := zs s121 10 (Int32.toNatClampNeg ((32 : Int32) + (zg s119 0 10))) x2
                zin ((64 : Int32) + (zg s119 0 10)) 192 <|
                let s123 : zS := zs s122 10 (Int32.toNatClampNeg ((64 : Int32) + (zg s119 0 10))) x3
                zin ((96 : Int32) + (zg s119 0 10)) 192 <|
                let s124 : zS := zs s123 10 (Int32.toNatClampNeg ((96 : Int32) + (zg s119 0 10))) x4
                zin ((128 : Int32) + (zg s119 0 10)) 192 <|
                let s125 : zS := zs s124 10 (Int32.toNatClampNeg ((128 : Int32) + (zg s119 0 10))) x5
                zin ((160 : Int32) + (zg s119 0 10)) 192 <|
                let s126 : zS := zs s125 10 (Int32.toNatClampNeg ((160 : Int32) + (zg s119 0 10))) x6
                let s127 : zS := zs s126 0 10 ((zg s119 0 10) + (1 : Int32))
                some (some (.inl (zg s119 0 10)), s127))
              else (
                zcI (C 126 [.inr (.inr 0), .inl (-7 : Int32)] s119) fun r129 s128 =>
                some (some (.inl r129), s128)))
            else (
              zcI (C 126 [.inr (.inr 0), .inl (-6 : Int32)] s119) fun r131 s130 =>
              some (some (.inl r131), s130)))))
      else (
        zcI (C 126 [.inr (.inr 0), .inl (-1 : Int32)] s109) fun r133 s132 =>
        some (some (.inl r133), s132))))
set_option maxRecDepth 100000 in
set_option maxHeartbeats 4000000 in
theorem bM_M_way2_0_e (C : Nat → List zV → zS → zR) (J : Nat → zL → List zV → zS → zR) (x1 : Int32) (x2 : Int32) (x3 : Int32) (x4 : Int32) (x5 : Int32) (x6 : Int32) (s : zS) : zline skM C J zT_M_way2 1 500 (zT_M_way2.drop 0) [some (.inr (.inr 0)), some (.inl x1), some (.inl x2), some (.inl x3), some (.inl x4), some (.inl x5), some (.inl x6)] [] s = bM_M_way2_0 C J x1 x2 x3 x4 x5 x6 s := rfl
def bM_M_isGeneric_0 (C : Nat → List zV → zS → zR) (J : Nat → zL → List zV → zS → zR) (x0 : Int32) (s : zS) : zR :=
  zcI (C 128 [.inl x0, .inl (0 : Int32), .inl (7 : Int32)] s) fun r102 s101 =>
  zbo r102 <|
  some (some (.inl r102), s101)
set_option maxRecDepth 100000 in
set_option maxHeartbeats 4000000 in
theorem bM_M_isGeneric_0_e (C : Nat → List zV → zS → zR) (J : Nat → zL → List zV → zS → zR) (x0 : Int32) (s : zS) : zline skM C J zT_M_isGeneric 3 500 (zT_M_isGeneric.drop 0) [some (.inl x0)] [] s = bM_M_isGeneric_0 C J x0 s := rfl
def bM_M_wayOf_0 (C : Nat → List zV → zS → zR) (J : Nat → zL → List zV → zS → zR) (x1 : Int32) (x2 : Int32) (s : zS) : zR :=
  zcI (C 128 [.inl x1, .inl (0 : Int32), .inl ((zg s 0 10) - (1 : Int32))] s) fun r102 s101 =>
  if r102 = 0 then (
    zcI (C 126 [.inr (.inr 0), .inl (-5 : Int32)] s101) fun r104 s103 =>
    some (some (.inl r104), s103))
  else (
    zcI (C 128 [.inl x2, .inl (0 : Int32), .inl (5 : Int32)] s101) fun r106 s105 =>
    if ¬ r106 = 0 then (
      zcI (C 184 [.inr (.inr 0), .inl x2, .inl x1] s105) fun r108 s107 =>
      if ¬ x2 = (5 : Int32) then (
        some (some (.inl (r108 + (0 : Int32))), s107))
      else (
        some (some (.inl (r108 + (100 : Int32))), s107)))
    else (
      zcI (C 126 [.inr (.inr 0), .inl (-5 : Int32)] s105) fun r110 s109 =>
      some (some (.inl r110), s109)))
set_option maxRecDepth 100000 in
set_option maxHeartbeats 4000000 in
theorem bM_M_wayOf_0_e (C : Nat → List zV → zS → zR) (J : Nat → zL → List zV → zS → zR) (x1 : Int32) (x2 : Int32) (s : zS) : zline skM C J zT_M_wayOf 1 500 (zT_M_wayOf.drop 0) [some (.inr (.inr 0)), some (.inl x1), some (.inl x2)] [] s = bM_M_wayOf_0 C J x1 x2 s := rfl
def bM_M_applies_0 (C : Nat → List zV → zS → zR) (J : Nat → zL → List zV → zS → zR) (x1 : Int32) (x2 : Int32) (x3 : Int32) (x4 : Int32) (x5 : Int32) (s : zS) : zR :=
  zcI (C 193 [.inl x1] s) fun r102 s101 =>
  if r102 = 0 then (
    zcI (C 127 [.inr (.inr 0), .inl (-1 : Int32)] s101) fun r104 s103 =>
    some (some (.inl r104), s103))
  else (
    zcI (C 129 [.inr (.inr 0), .inl x2] s101) fun r106 s105 =>
    if r106 = 0 then (
      zcI (C 127 [.inr (.inr 0), .inl (-1 : Int32)] s105) fun r108 s107 =>
      some (some (.inl r108), s107))
    else (
      zcI (C 129 [.inr (.inr 0), .inl x3] s105) fun r110 s109 =>
      if ¬ r110 = 0 then (
        zcI (C 128 [.inl x4, .inl (0 : Int32), .inl (3 : Int32)] s109) fun r112 s111 =>
        if ¬ r112 = 0 then (
          zcV (C 198 [.inr (.inr 0), .inl x1, .inl x2, .inl x3] s111) fun s113 =>
          if ¬ x5 = (-1 : Int32) then (
            zin x4 4 <|
            zcI (C 128 [.inl x5, .inl (0 : Int32), .inl ((zg s113 23 (Int32.toNatClampNeg x4)) - (1 : Int32))] s113) fun r115 s114 =>
            if r115 = 0 then (
              some (some (.inl (-1 : Int32)), s114))
            else (
              zin (((32 : Int32) * x4) + x5) 128 <|
              some (some (.inl (zg s114 22 (Int32.toNatClampNeg (((32 : Int32) * x4) + x5)))), s114)))
          else (
            zin x4 4 <|
            some (some (.inl (zg s113 23 (Int32.toNatClampNeg x4))), s113)))
        else (
          zcI (C 127 [.inr (.inr 0), .inl (-6 : Int32)] s111) fun r117 s116 =>
          some (some (.inl r117), s116)))
      else (
        zcI (C 127 [.inr (.inr 0), .inl (-1 : Int32)] s109) fun r119 s118 =>
        some (some (.inl r119), s118))))
set_option maxRecDepth 100000 in
set_option maxHeartbeats 4000000 in
theorem bM_M_applies_0_e (C : Nat → List zV → zS → zR) (J : Nat → zL → List zV → zS → zR) (x1 : Int32) (x2 : Int32) (x3 : Int32) (x4 : Int32) (x5 : Int32) (s : zS) : zline skM C J zT_M_applies 1 500 (zT_M_applies.drop 0) [some (.inr (.inr 0)), some (.inl x1), some (.inl x2), some (.inl x3), some (.inl x4), some (.inl x5)] [] s = bM_M_applies_0 C J x1 x2 x3 x4 x5 s := rfl
def bM_M_stands_0 (C : Nat → List zV → zS → zR) (J : Nat → zL → List zV → zS → zR) (x1 : Int32) (x2 : Int32) (x3 : Int32) (s : zS) : zR :=
  J 2 [some (.inr (.inr 0)), some (.inl x1), some (.inl x2), some (.inl x3), some (.inl (0 : Int32)), none, none] [] s
set_option maxRecDepth 100000 in
set_option maxHeartbeats 4000000 in
theorem bM_M_stands_0_e (C : Nat → List zV → zS → zR) (J : Nat → zL → List zV → zS → zR) (x1 : Int32) (x2 : Int32) (x3 : Int32) (s : zS) : zline skM C J zT_M_stands 0 500 (zT_M_stands.drop 0) [some (.inr (.inr 0)), some (.inl x1), some (.inl x2), some (.inl x3), none, none, none] [] s = bM_M_stands_0 C J x1 x2 x3 s := rfl
def bM_M_stands_2 (C : Nat → List zV → zS → zR) (J : Nat → zL → List zV → zS → zR) (x1 : Int32) (x2 : Int32) (x3 : Int32) (x4 : Int32) (s : zS) : zR :=
  if (4 : Int32) ≤ x4 then (
    J 14 [some (.inr (.inr 0)), some (.inl x1), some (.inl x2), some (.inl x3), some (.inl (0 : Int32)), none, none] [] s)
  else (
    zin x4 4 <|
    let s101 : zS := zs s 23 (Int32.toNatClampNeg x4) (0 : Int32)
    J 2 [some (.inr (.inr 0)), some (.inl x1), some (.inl x2), some (.inl x3), some (.inl (x4 + (1 : Int32))), none, none] [] s101)
set_option maxRecDepth 100000 in
set_option maxHeartbeats 4000000 in
theorem bM_M_stands_2_e (C : Nat → List zV → zS → zR) (J : Nat → zL → List zV → zS → zR) (x1 : Int32) (x2 : Int32) (x3 : Int32) (x4 : Int32) (s : zS) : zline skM C J zT_M_stands 0 500 (zT_M_stands.drop 2) [some (.inr (.inr 0)), some (.inl x1), some (.inl x2), some (.inl x3), some (.inl x4), none, none] [] s = bM_M_stands_2 C J x1 x2 x3 x4 s := rfl
def bM_M_stands_14 (C : Nat → List zV → zS → zR) (J : Nat → zL → List zV → zS → zR) (x1 : Int32) (x2 : Int32) (x3 : Int32) (x4 : Int32) (s : zS) : zR :=
  if (zg s 0 10) ≤ x4 then (
    some (none, s))
  else (
    zcI (C 184 [.inr (.inr 0), .inl (0 : Int32), .inl x4] s) fun r102 s101 =>
    if ¬ r102 = x1 then (
      J 14 [some (.inr (.inr 0)), some (.inl x1), some (.inl x2), some (.inl x3), some (.inl (x4 + (1 : Int32))), none, none] [] s101)
    else (
      zcI (C 184 [.inr (.inr 0), .inl (1 : Int32), .inl x4] s101) fun r104 s103 =>
      zcI (C 167 [.inr (.inr 0), .inl x2, .inl r104] s103) fun r106 s105 =>
      if r106 = (-1 : Int32) then (
        J 14 [some (.inr (.inr 0)), some (.inl x1), some (.inl x2), some (.inl x3), some (.inl (x4 + (1 : Int32))), none, none] [] s105)
      else (
        zcI (C 184 [.inr (.inr 0), .inl (2 : Int32), .inl x4] s105) fun r108 s107 =>
        zcI (C 167 [.inr (.inr 0), .inl x3, .inl r108] s107) fun r110 s109 =>
        if ¬ r110 = (-1 : Int32) then (
          zcI (C 184 [.inr (.inr 0), .inl (3 : Int32), .inl x4] s109) fun r112 s111 =>
          zin r112 4 <|
          J 53 [some (.inr (.inr 0)), some (.inl x1), some (.inl x2), some (.inl x3), some (.inl x4), some (.inl r112), some (.inl (zg s111 23 (Int32.toNatClampNeg r112)))] [] s111)
        else (
          J 14 [some (.inr (.inr 0)), some (.inl x1), some (.inl x2), some (.inl x3), some (.inl (x4 + (1 : Int32))), none, none] [] s109))))
set_option maxRecDepth 100000 in
set_option maxHeartbeats 4000000 in
theorem bM_M_stands_14_e (C : Nat → List zV → zS → zR) (J : Nat → zL → List zV → zS → zR) (x1 : Int32) (x2 : Int32) (x3 : Int32) (x4 : Int32) (s : zS) : zline skM C J zT_M_stands 0 500 (zT_M_stands.drop 14) [some (.inr (.inr 0)), some (.inl x1), some (.inl x2), some (.inl x3), some (.inl x4), none, none] [] s = bM_M_stands_14 C J x1 x2 x3 x4 s := rfl
def bM_M_stands_53 (C : Nat → List zV → zS → zR) (J : Nat → zL → List zV → zS → zR) (x1 : Int32) (x2 : Int32) (x3 : Int32) (x4 : Int32) (x5 : Int32) (x6 : Int32) (s : zS) : zR :=
  if x6 ≤ 0 then (
    zin (((32 : Int32) * x5) + x6) 128 <|
    let s101 : zS := zs s 22 (Int32.toNatClampNeg (((32 : Int32) * x5) + x6)) x4
    zin x5 4 <|
    zin x5 4 <|
    let s102 : zS := zs s101 23 (Int32.toNatClampNeg x5) ((zg s 23 (Int32.toNatClampNeg x5)) + (1 : Int32))
    J 14 [some (.inr (.inr 0)), some (.inl x1), some (.inl x2), some (.inl x3), some (.inl (x4 + (1 : Int32))), none, none] [] s102)
  else (
    zin ((((32 : Int32) * x5) + x6) - (1 : Int32)) 128 <|
    zcI (C 197 [.inr (.inr 0), .inl x4, .inl (zg s 22 (Int32.toNatClampNeg ((((32 : Int32) * x5) + x6) - (1 : Int32)))), .inl x2, .inl x3] s) fun r104 s103 =>
    if r104 = 0 then (
      zin (((32 : Int32) * x5) + x6) 128 <|
      let s105 : zS := zs s103 22 (Int32.toNatClampNeg (((32 : Int32) * x5) + x6)) x4
      zin x5 4 <|
      zin x5 4 <|
      let s106 : zS := zs s105 23 (Int32.toNatClampNeg x5) ((zg s103 23 (Int32.toNatClampNeg x5)) + (1 : Int32))
      J 14 [some (.inr (.inr 0)), some (.inl x1), some (.inl x2), some (.inl x3), some (.inl (x4 + (1 : Int32))), none, none] [] s106)
    else (
      zin ((((32 : Int32) * x5) + x6) - (1 : Int32)) 128 <|
      zin (((32 : Int32) * x5) + x6) 128 <|
      let s107 : zS := zs s103 22 (Int32.toNatClampNeg (((32 : Int32) * x5) + x6)) (zg s103 22 (Int32.toNatClampNeg ((((32 : Int32) * x5) + x6) - (1 : Int32))))
      J 53 [some (.inr (.inr 0)), some (.inl x1), some (.inl x2), some (.inl x3), some (.inl x4), some (.inl x5), some (.inl (x6 + (-1 : Int32)))] [] s107))
set_option maxRecDepth 100000 in
set_option maxHeartbeats 4000000 in
theorem bM_M_stands_53_e (C : Nat → List zV → zS → zR) (J : Nat → zL → List zV → zS → zR) (x1 : Int32) (x2 : Int32) (x3 : Int32) (x4 : Int32) (x5 : Int32) (x6 : Int32) (s : zS) : zline skM C J zT_M_stands 0 500 (zT_M_stands.drop 53) [some (.inr (.inr 0)), some (.inl x1), some (.inl x2), some (.inl x3), some (.inl x4), some (.inl x5), some (.inl x6)] [] s = bM_M_stands_53 C J x1 x2 x3 x4 x5 x6 s := rfl
def bM_M_isAhead_0 (C : Nat → List zV → zS → zR) (J : Nat → zL → List zV → zS → zR) (x1 : Int32) (x2 : Int32) (x3 : Int32) (x4 : Int32) (s : zS) : zR :=
  zcI (C 196 [.inr (.inr 0), .inl x1, .inl x3, .inl x4] s) fun r102 s101 =>
  zcI (C 196 [.inr (.inr 0), .inl x2, .inl x3, .inl x4] s101) fun r104 s103 =>
  if r102 = r104 then (
    zcI (C 184 [.inr (.inr 0), .inl (1 : Int32), .inl x1] s103) fun r106 s105 =>
    zcI (C 167 [.inr (.inr 0), .inl x3, .inl r106] s105) fun r108 s107 =>
    zcI (C 184 [.inr (.inr 0), .inl (1 : Int32), .inl x2] s107) fun r110 s109 =>
    zcI (C 167 [.inr (.inr 0), .inl x3, .inl r110] s109) fun r112 s111 =>
    if r108 = r112 then (
      if x1 ≤ x2 then (
        zbo (0 : Int32) <|
        some (some (.inl (0 : Int32)), s111))
      else (
        zbo (1 : Int32) <|
        some (some (.inl (1 : Int32)), s111)))
    else (
      zcI (C 184 [.inr (.inr 0), .inl (1 : Int32), .inl x1] s111) fun r114 s113 =>
      zcI (C 167 [.inr (.inr 0), .inl x3, .inl r114] s113) fun r116 s115 =>
      zcI (C 184 [.inr (.inr 0), .inl (1 : Int32), .inl x2] s115) fun r118 s117 =>
      zcI (C 167 [.inr (.inr 0), .inl x3, .inl r118] s117) fun r120 s119 =>
      if r120 ≤ r116 then (
        zbo (0 : Int32) <|
        some (some (.inl (0 : Int32)), s119))
      else (
        zbo (1 : Int32) <|
        some (some (.inl (1 : Int32)), s119))))
  else (
    zcI (C 196 [.inr (.inr 0), .inl x1, .inl x3, .inl x4] s103) fun r122 s121 =>
    zcI (C 196 [.inr (.inr 0), .inl x2, .inl x3, .inl x4] s121) fun r124 s123 =>
    if r124 ≤ r122 then (
      zbo (0 : Int32) <|
      some (some (.inl (0 : Int32)), s123))
    else (
      zbo (1 : Int32) <|
      some (some (.inl (1 : Int32)), s123)))
set_option maxRecDepth 100000 in
set_option maxHeartbeats 4000000 in
theorem bM_M_isAhead_0_e (C : Nat → List zV → zS → zR) (J : Nat → zL → List zV → zS → zR) (x1 : Int32) (x2 : Int32) (x3 : Int32) (x4 : Int32) (s : zS) : zline skM C J zT_M_isAhead 3 500 (zT_M_isAhead.drop 0) [some (.inr (.inr 0)), some (.inl x1), some (.inl x2), some (.inl x3), some (.inl x4)] [] s = bM_M_isAhead_0 C J x1 x2 x3 x4 s := rfl
def bM_M_far_0 (C : Nat → List zV → zS → zR) (J : Nat → zL → List zV → zS → zR) (x1 : Int32) (x2 : Int32) (x3 : Int32) (s : zS) : zR :=
  zcI (C 184 [.inr (.inr 0), .inl (1 : Int32), .inl x1] s) fun r102 s101 =>
  zcI (C 167 [.inr (.inr 0), .inl x2, .inl r102] s101) fun r104 s103 =>
  zcI (C 184 [.inr (.inr 0), .inl (2 : Int32), .inl x1] s103) fun r106 s105 =>
  zcI (C 167 [.inr (.inr 0), .inl x3, .inl r106] s105) fun r108 s107 =>
  some (some (.inl (r104 + r108)), s107)
set_option maxRecDepth 100000 in
set_option maxHeartbeats 4000000 in
theorem bM_M_far_0_e (C : Nat → List zV → zS → zR) (J : Nat → zL → List zV → zS → zR) (x1 : Int32) (x2 : Int32) (x3 : Int32) (s : zS) : zline skM C J zT_M_far 1 500 (zT_M_far.drop 0) [some (.inr (.inr 0)), some (.inl x1), some (.inl x2), some (.inl x3)] [] s = bM_M_far_0 C J x1 x2 x3 s := rfl
def bM_M_tie_0 (C : Nat → List zV → zS → zR) (J : Nat → zL → List zV → zS → zR) (x1 : Int32) (x2 : Int32) (x3 : Int32) (s : zS) : zR :=
  zcI (C 193 [.inl x1] s) fun r102 s101 =>
  if r102 = 0 then (
    zcI (C 126 [.inr (.inr 0), .inl (-1 : Int32)] s101) fun r104 s103 =>
    some (some (.inl r104), s103))
  else (
    zcI (C 129 [.inr (.inr 0), .inl x2] s101) fun r106 s105 =>
    if r106 = 0 then (
      zcI (C 126 [.inr (.inr 0), .inl (-1 : Int32)] s105) fun r108 s107 =>
      some (some (.inl r108), s107))
    else (
      zcI (C 129 [.inr (.inr 0), .inl x3] s105) fun r110 s109 =>
      if ¬ r110 = 0 then (
        zcV (C 198 [.inr (.inr 0), .inl x1, .inl x2, .inl x3] s109) fun s111 =>
        if (zg s111 23 0) ≤ (1 : Int32) then (
          some (some (.inl (0 : Int32)), s111))
        else (
          zcI (C 196 [.inr (.inr 0), .inl (zg s111 22 0), .inl x2, .inl x3] s111) fun r113 s112 =>
          zcI (C 196 [.inr (.inr 0), .inl (zg s112 22 1), .inl x2, .inl x3] s112) fun r115 s114 =>
          if ¬ r113 = r115 then (
            some (some (.inl (0 : Int32)), s114))
          else (
            some (some (.inl (1 : Int32)), s114))))
      else (
        zcI (C 126 [.inr (.inr 0), .inl (-1 : Int32)] s109) fun r117 s116 =>
        some (some (.inl r117), s116))))
set_option maxRecDepth 100000 in
set_option maxHeartbeats 4000000 in
theorem bM_M_tie_0_e (C : Nat → List zV → zS → zR) (J : Nat → zL → List zV → zS → zR) (x1 : Int32) (x2 : Int32) (x3 : Int32) (s : zS) : zline skM C J zT_M_tie 1 500 (zT_M_tie.drop 0) [some (.inr (.inr 0)), some (.inl x1), some (.inl x2), some (.inl x3)] [] s = bM_M_tie_0 C J x1 x2 x3 s := rfl
def bM_M_call_0 (C : Nat → List zV → zS → zR) (J : Nat → zL → List zV → zS → zR) (x1 : Int32) (x2 : Int32) (x3 : Int32) (x4 : Int32) (s : zS) : zR :=
  zcI (C 193 [.inl x1] s) fun r102 s101 =>
  if r102 = 0 then (
    zcI (C 126 [.inr (.inr 0), .inl (-1 : Int32)] s101) fun r104 s103 =>
    some (some (.inl r104), s103))
  else (
    zcI (C 129 [.inr (.inr 0), .inl x2] s101) fun r106 s105 =>
    if r106 = 0 then (
      zcI (C 126 [.inr (.inr 0), .inl (-1 : Int32)] s105) fun r108 s107 =>
      some (some (.inl r108), s107))
    else (
      zcI (C 129 [.inr (.inr 0), .inl x3] s105) fun r110 s109 =>
      if ¬ r110 = 0 then (
        zcV (C 198 [.inr (.inr 0), .inl x1, .inl x2, .inl x3] s109) fun s111 =>
        let s112 : zS := zs s111 0 29 (0 : Int32)
        zcV (C 187 [.inr (.inr 0), .inl x2] s112) fun s113 =>
        zcI (C 181 [.inr (.inr 0), .inl (1 : Int32), .inl (0 : Int32), .inl (-1 : Int32), .inl x4] s113) fun r115 s114 =>
        zcI (C 188 [.inr (.inr 0), .inl r115] s114) fun r117 s116 =>
        let s118 : zS := zs s116 0 30 r117
        let s119 : zS := zs s118 0 31 (zg s116 0 29)
        let s120 : zS := zs s119 0 32 (zg s116 0 33)
        J 46 [some (.inr (.inr 0)), none, none, none, none, some (.inl (0 : Int32))] [] s120)
      else (
        zcI (C 126 [.inr (.inr 0), .inl (-1 : Int32)] s109) fun r122 s121 =>
        some (some (.inl r122), s121))))
set_option maxRecDepth 100000 in
set_option maxHeartbeats 4000000 in
theorem bM_M_call_0_e (C : Nat → List zV → zS → zR) (J : Nat → zL → List zV → zS → zR) (x1 : Int32) (x2 : Int32) (x3 : Int32) (x4 : Int32) (s : zS) : zline skM C J zT_M_call 1 500 (zT_M_call.drop 0) [some (.inr (.inr 0)), some (.inl x1), some (.inl x2), some (.inl x3), some (.inl x4), none] [] s = bM_M_call_0 C J x1 x2 x3 x4 s := rfl
def bM_M_call_46 (C : Nat → List zV → zS → zR) (J : Nat → zL → List zV → zS → zR) (x5 : Int32) (s : zS) : zR :=
  if (30 : Int32) ≤ x5 then (
    some (some (.inl (zg s 0 28)), s))
  else (
    if (zg s 0 33) ≤ x5 then (
      some (some (.inl (zg s 0 28)), s))
    else (
      zin x5 30 <|
      zin x5 30 <|
      let s101 : zS := zs s 21 (Int32.toNatClampNeg x5) (zg s 20 (Int32.toNatClampNeg x5))
      J 46 [some (.inr (.inr 0)), none, none, none, none, some (.inl (x5 + (1 : Int32)))] [] s101))
set_option maxRecDepth 100000 in
set_option maxHeartbeats 4000000 in
theorem bM_M_call_46_e (C : Nat → List zV → zS → zR) (J : Nat → zL → List zV → zS → zR) (x5 : Int32) (s : zS) : zline skM C J zT_M_call 1 500 (zT_M_call.drop 46) [some (.inr (.inr 0)), none, none, none, none, some (.inl x5)] [] s = bM_M_call_46 C J x5 s := rfl
def bM_M_trace_0 (C : Nat → List zV → zS → zR) (J : Nat → zL → List zV → zS → zR) (x1 : Int32) (s : zS) : zR :=
  zcI (C 217 [.inl (30 : Int32), .inl (zg s 0 32)] s) fun r102 s101 =>
  zcI (C 128 [.inl x1, .inl (0 : Int32), .inl (r102 - (1 : Int32))] s101) fun r104 s103 =>
  if r104 = 0 then (
    some (some (.inl (-1 : Int32)), s103))
  else (
    zin x1 30 <|
    some (some (.inl (zg s103 21 (Int32.toNatClampNeg x1))), s103))
set_option maxRecDepth 100000 in
set_option maxHeartbeats 4000000 in
theorem bM_M_trace_0_e (C : Nat → List zV → zS → zR) (J : Nat → zL → List zV → zS → zR) (x1 : Int32) (s : zS) : zline skM C J zT_M_trace 1 500 (zT_M_trace.drop 0) [some (.inr (.inr 0)), some (.inl x1)] [] s = bM_M_trace_0 C J x1 s := rfl
def bM_J_min_0 (C : Nat → List zV → zS → zR) (J : Nat → zL → List zV → zS → zR) (x0 : Int32) (x1 : Int32) (s : zS) : zR :=
  if x1 < x0 then (
    some (some (.inl x1), s))
  else (
    some (some (.inl x0), s))
set_option maxRecDepth 100000 in
set_option maxHeartbeats 4000000 in
theorem bM_J_min_0_e (C : Nat → List zV → zS → zR) (J : Nat → zL → List zV → zS → zR) (x0 : Int32) (x1 : Int32) (s : zS) : zline skM C J zT_J_min 1 500 (zT_J_min.drop 0) [some (.inl x0), some (.inl x1)] [] s = bM_J_min_0 C J x0 x1 s := rfl
def bM_M_judge_0 (C : Nat → List zV → zS → zR) (J : Nat → zL → List zV → zS → zR) (x1 : Int32) (x2 : Int32) (x3 : Int32) (x4 : Int32) (s : zS) : zR :=
  zcI (C 134 [.inr (.inr 0), .inl x1] s) fun r102 s101 =>
  if r102 = (-1 : Int32) then (
    zcI (C 127 [.inr (.inr 0), .inl (-1 : Int32)] s101) fun r104 s103 =>
    some (some (.inl r104), s103))
  else (
    zcI (C 129 [.inr (.inr 0), .inl x2] s101) fun r106 s105 =>
    if r106 = 0 then (
      zcI (C 127 [.inr (.inr 0), .inl (-1 : Int32)] s105) fun r108 s107 =>
      some (some (.inl r108), s107))
    else (
      zcI (C 130 [.inl x3] s105) fun r110 s109 =>
      if ¬ r110 = 0 then (
        if 0 ≤ r102 then (
          if 0 ≤ x4 then (
            zin x1 8 <|
            if (lg_cmp ((2 : Int64) * (Int32.toInt64 x4)) (Int32.toInt64 (zg s109 12 (Int32.toNatClampNeg x1)))) ≤ 0 then (
              let s111 : zS := zs s109 0 29 (0 : Int32)
              J 50 [some (.inr (.inr 0)), some (.inl x1), some (.inl x2), some (.inl x3), some (.inl x4), none, some (.inl (0 : Int32))] [] s111)
            else (
              zcI (C 127 [.inr (.inr 0), .inl (-5 : Int32)] s109) fun r113 s112 =>
              some (some (.inl r113), s112)))
          else (
            zcI (C 127 [.inr (.inr 0), .inl (-4 : Int32)] s109) fun r115 s114 =>
            some (some (.inl r115), s114)))
        else (
          zcI (C 127 [.inr (.inr 0), .inl r102] s109) fun r117 s116 =>
          some (some (.inl r117), s116)))
      else (
        zcI (C 127 [.inr (.inr 0), .inl (-1 : Int32)] s109) fun r119 s118 =>
        some (some (.inl r119), s118))))
set_option maxRecDepth 100000 in
set_option maxHeartbeats 4000000 in
theorem bM_M_judge_0_e (C : Nat → List zV → zS → zR) (J : Nat → zL → List zV → zS → zR) (x1 : Int32) (x2 : Int32) (x3 : Int32) (x4 : Int32) (s : zS) : zline skM C J zT_M_judge 1 500 (zT_M_judge.drop 0) [some (.inr (.inr 0)), some (.inl x1), some (.inl x2), some (.inl x3), some (.inl x4), none, none] [] s = bM_M_judge_0 C J x1 x2 x3 x4 s := rfl
def bM_M_judge_50 (C : Nat → List zV → zS → zR) (J : Nat → zL → List zV → zS → zR) (x1 : Int32) (x2 : Int32) (x3 : Int32) (x4 : Int32) (x6 : Int32) (s : zS) : zR :=
  if x4 ≤ x6 then (
    some (some (.inl (-1 : Int32)), s))
  else (
    zcI (C 203 [.inr (.inr 0), .inl x1, .inl ((2 : Int32) * x6)] s) fun r102 s101 =>
    zcI (C 191 [.inr (.inr 0), .inl x2, .inl x3, .inl r102] s101) fun r104 s103 =>
    zcI (C 203 [.inr (.inr 0), .inl x1, .inl (((2 : Int32) * x6) + (1 : Int32))] s103) fun r106 s105 =>
    if ¬ r104 = r106 then (
      some (some (.inl x6), s105))
    else (
      if (zg s105 0 28) = 0 then (
        J 50 [some (.inr (.inr 0)), some (.inl x1), some (.inl x2), some (.inl x3), some (.inl x4), none, some (.inl (x6 + (1 : Int32)))] [] s105)
      else (
        some (some (.inl x6), s105))))
set_option maxRecDepth 100000 in
set_option maxHeartbeats 4000000 in
theorem bM_M_judge_50_e (C : Nat → List zV → zS → zR) (J : Nat → zL → List zV → zS → zR) (x1 : Int32) (x2 : Int32) (x3 : Int32) (x4 : Int32) (x6 : Int32) (s : zS) : zline skM C J zT_M_judge 1 500 (zT_M_judge.drop 50) [some (.inr (.inr 0)), some (.inl x1), some (.inl x2), some (.inl x3), some (.inl x4), none, some (.inl x6)] [] s = bM_M_judge_50 C J x1 x2 x3 x4 x6 s := rfl
def bM_M_read2_0 (C : Nat → List zV → zS → zR) (J : Nat → zL → List zV → zS → zR) (x1 : Int32) (x2 : Int32) (s : zS) : zR :=
  zin (((160 : Int32) * x1) + x2) 1280 <|
  some (some (.inl (Int64.toInt32 (zgl s 13 (Int32.toNatClampNeg (((160 : Int32) * x1) + x2))))), s)
set_option maxRecDepth 100000 in
set_option maxHeartbeats 4000000 in
theorem bM_M_read2_0_e (C : Nat → List zV → zS → zR) (J : Nat → zL → List zV → zS → zR) (x1 : Int32) (x2 : Int32) (s : zS) : zline skM C J zT_M_read2 1 500 (zT_M_read2.drop 0) [some (.inr (.inr 0)), some (.inl x1), some (.inl x2)] [] s = bM_M_read2_0 C J x1 x2 s := rfl
def bM_M_days_0 (C : Nat → List zV → zS → zR) (J : Nat → zL → List zV → zS → zR) (x1 : Int32) (s : zS) : zR :=
  if ¬ (zg s 0 0) = 0 then (
    zcI (C 128 [.inl x1, .inl (1 : Int32), .inl (40 : Int32)] s) fun r102 s101 =>
    if ¬ r102 = 0 then (
      let s103 : zS := zs s101 0 29 (0 : Int32)
      J 21 [some (.inr (.inr 0)), some (.inl x1), some (.inl (0 : Int32)), none, none, none] [] s103)
    else (
      zcI (C 126 [.inr (.inr 0), .inl (-6 : Int32)] s101) fun r105 s104 =>
      some (some (.inl r105), s104)))
  else (
    zcI (C 126 [.inr (.inr 0), .inl (-5 : Int32)] s) fun r107 s106 =>
    some (some (.inl r107), s106))
set_option maxRecDepth 100000 in
set_option maxHeartbeats 4000000 in
theorem bM_M_days_0_e (C : Nat → List zV → zS → zR) (J : Nat → zL → List zV → zS → zR) (x1 : Int32) (s : zS) : zline skM C J zT_M_days 1 500 (zT_M_days.drop 0) [some (.inr (.inr 0)), some (.inl x1), none, none, none, none] [] s = bM_M_days_0 C J x1 s := rfl
def bM_M_days_21 (C : Nat → List zV → zS → zR) (J : Nat → zL → List zV → zS → zR) (x1 : Int32) (x2 : Int32) (s : zS) : zR :=
  if x1 ≤ x2 then (
    zcI (C 206 [.inr (.inr 0)] s) fun r102 s101 =>
    some (some (.inl r102), s101))
  else (
    zcI (C 205 [.inr (.inr 0), .inl (zg s 0 0)] s) fun r104 s103 =>
    zcI (C 205 [.inr (.inr 0), .inl (16 : Int32)] s103) fun r106 s105 =>
    zcI (C 205 [.inr (.inr 0), .inl (3 : Int32)] s105) fun r108 s107 =>
    if ¬ r108 = (1 : Int32) then (
      zin r104 16 <|
      if (zg s107 1 (Int32.toNatClampNeg r104)) = (3 : Int32) then (
        J 21 [some (.inr (.inr 0)), some (.inl x1), some (.inl (x2 + (1 : Int32))), none, none, none] [] s107)
      else (
        if ¬ r108 = 0 then (
          zcV (C 165 [.inr (.inr 0), .inl r104, .inl r106] s107) fun s109 =>
          J 21 [some (.inr (.inr 0)), some (.inl x1), some (.inl (x2 + (1 : Int32))), none, none, none] [] s109)
        else (
          zcI (C 205 [.inr (.inr 0), .inl (100 : Int32)] s107) fun r111 s110 =>
          zcV (C 162 [.inr (.inr 0), .inl r104, .inl r106, .inl (0 : Int32), .inl (0 : Int32), .inl r111] s110) fun s112 =>
          J 21 [some (.inr (.inr 0)), some (.inl x1), some (.inl (x2 + (1 : Int32))), none, none, none] [] s112)))
    else (
      zcV (C 187 [.inr (.inr 0), .inl r104] s107) fun s113 =>
      zcI (C 205 [.inr (.inr 0), .inl (100 : Int32)] s113) fun r115 s114 =>
      zcI (C 179 [.inr (.inr 0), .inl r106, .inl r115] s114) fun r117 s116 =>
      zcI (C 188 [.inr (.inr 0), .inl r117] s116) fun r119 s118 =>
      J 21 [some (.inr (.inr 0)), some (.inl x1), some (.inl (x2 + (1 : Int32))), none, none, none] [] s118))
set_option maxRecDepth 100000 in
set_option maxHeartbeats 4000000 in
theorem bM_M_days_21_e (C : Nat → List zV → zS → zR) (J : Nat → zL → List zV → zS → zR) (x1 : Int32) (x2 : Int32) (s : zS) : zline skM C J zT_M_days 1 500 (zT_M_days.drop 21) [some (.inr (.inr 0)), some (.inl x1), some (.inl x2), none, none, none] [] s = bM_M_days_21 C J x1 x2 s := rfl
def bM_M_allSlots_0 (C : Nat → List zV → zS → zR) (J : Nat → zL → List zV → zS → zR) (s : zS) : zR :=
  J 4 [some (.inr (.inr 0)), some (.inl (0 : Int32)), some (.inl (0 : Int32))] [] s
set_option maxRecDepth 100000 in
set_option maxHeartbeats 4000000 in
theorem bM_M_allSlots_0_e (C : Nat → List zV → zS → zR) (J : Nat → zL → List zV → zS → zR) (s : zS) : zline skM C J zT_M_allSlots 1 500 (zT_M_allSlots.drop 0) [some (.inr (.inr 0)), none, none] [] s = bM_M_allSlots_0 C J s := rfl
def bM_M_allSlots_4 (C : Nat → List zV → zS → zR) (J : Nat → zL → List zV → zS → zR) (x1 : Int32) (x2 : Int32) (s : zS) : zR :=
  if (zg s 0 0) ≤ x2 then (
    some (some (.inl x1), s))
  else (
    zin x2 16 <|
    zcI (C 215 [.inl (zg s 6 (Int32.toNatClampNeg x2))] s) fun r102 s101 =>
    J 4 [some (.inr (.inr 0)), some (.inl (x1 + r102)), some (.inl (x2 + (1 : Int32)))] [] s101)
set_option maxRecDepth 100000 in
set_option maxHeartbeats 4000000 in
theorem bM_M_allSlots_4_e (C : Nat → List zV → zS → zR) (J : Nat → zL → List zV → zS → zR) (x1 : Int32) (x2 : Int32) (s : zS) : zline skM C J zT_M_allSlots 1 500 (zT_M_allSlots.drop 4) [some (.inr (.inr 0)), some (.inl x1), some (.inl x2)] [] s = bM_M_allSlots_4 C J x1 x2 s := rfl
def bM_M_draw_0 (C : Nat → List zV → zS → zR) (J : Nat → zL → List zV → zS → zR) (x1 : Int32) (s : zS) : zR :=
  let s101 : zS := zs s 0 12 (((zg s 0 12) * (1103515245 : Int32)) + (12345 : Int32))
  zne x1 <|
  some (some (.inl ((UInt32.toInt32 (Int32.toUInt32 (((zg s 0 12) * (1103515245 : Int32)) + (12345 : Int32)) >>> (Int32.toUInt32 (16 : Int32) &&& Int32.toUInt32 31))) - (UInt32.toInt32 (Int32.toUInt32 (((zg s 0 12) * (1103515245 : Int32)) + (12345 : Int32)) >>> (Int32.toUInt32 (16 : Int32) &&& Int32.toUInt32 31))) / x1 * x1)), s101)
set_option maxRecDepth 100000 in
set_option maxHeartbeats 4000000 in
theorem bM_M_draw_0_e (C : Nat → List zV → zS → zR) (J : Nat → zL → List zV → zS → zR) (x1 : Int32) (s : zS) : zline skM C J zT_M_draw 1 500 (zT_M_draw.drop 0) [some (.inr (.inr 0)), some (.inl x1)] [] s = bM_M_draw_0 C J x1 s := rfl
def bM_M_seed_0 (C : Nat → List zV → zS → zR) (J : Nat → zL → List zV → zS → zR) (x1 : Int32) (s : zS) : zR :=
  let s101 : zS := zs s 0 12 x1
  some (some (.inl (zg s 0 12)), s101)
set_option maxRecDepth 100000 in
set_option maxHeartbeats 4000000 in
theorem bM_M_seed_0_e (C : Nat → List zV → zS → zR) (J : Nat → zL → List zV → zS → zR) (x1 : Int32) (s : zS) : zline skM C J zT_M_seed 1 500 (zT_M_seed.drop 0) [some (.inr (.inr 0)), some (.inl x1), none] [] s = bM_M_seed_0 C J x1 s := rfl
def bM_M_image_0 (C : Nat → List zV → zS → zR) (J : Nat → zL → List zV → zS → zR) (s : zS) : zR :=
  zbo (1 : Int32) <|
  let s101 : zS := zs s 0 39 (1 : Int32)
  zcV (C 209 [.inr (.inr 0), .inr (.inr 24)] s101) fun s102 =>
  J 9 [some (.inr (.inr 0)), some (.inl (0 : Int32))] [] s102
set_option maxRecDepth 100000 in
set_option maxHeartbeats 4000000 in
theorem bM_M_image_0_e (C : Nat → List zV → zS → zR) (J : Nat → zL → List zV → zS → zR) (s : zS) : zline skM C J zT_M_image 1 500 (zT_M_image.drop 0) [some (.inr (.inr 0)), none] [] s = bM_M_image_0 C J s := rfl
def bM_M_image_9 (C : Nat → List zV → zS → zR) (J : Nat → zL → List zV → zS → zR) (x1 : Int32) (s : zS) : zR :=
  if (16 : Int32) ≤ x1 then (
    J 46 [some (.inr (.inr 0)), some (.inl (0 : Int32))] [] s)
  else (
    zin x1 16 <|
    zin ((544 : Int32) + x1) 1108 <|
    let s101 : zS := zs s 24 (Int32.toNatClampNeg ((544 : Int32) + x1)) (zg s 1 (Int32.toNatClampNeg x1))
    zin x1 16 <|
    zin ((560 : Int32) + x1) 1108 <|
    let s102 : zS := zs s101 24 (Int32.toNatClampNeg ((560 : Int32) + x1)) (zg s 2 (Int32.toNatClampNeg x1))
    zin x1 16 <|
    zin ((576 : Int32) + x1) 1108 <|
    let s103 : zS := zs s102 24 (Int32.toNatClampNeg ((576 : Int32) + x1)) (zg s 4 (Int32.toNatClampNeg x1))
    J 9 [some (.inr (.inr 0)), some (.inl (x1 + (1 : Int32)))] [] s103)
set_option maxRecDepth 100000 in
set_option maxHeartbeats 4000000 in
theorem bM_M_image_9_e (C : Nat → List zV → zS → zR) (J : Nat → zL → List zV → zS → zR) (x1 : Int32) (s : zS) : zline skM C J zT_M_image 1 500 (zT_M_image.drop 9) [some (.inr (.inr 0)), some (.inl x1)] [] s = bM_M_image_9 C J x1 s := rfl
def bM_M_image_46 (C : Nat → List zV → zS → zR) (J : Nat → zL → List zV → zS → zR) (x1 : Int32) (s : zS) : zR :=
  if (48 : Int32) ≤ x1 then (
    J 63 [some (.inr (.inr 0)), some (.inl (0 : Int32))] [] s)
  else (
    zin x1 48 <|
    zin ((592 : Int32) + x1) 1108 <|
    let s101 : zS := zs s 24 (Int32.toNatClampNeg ((592 : Int32) + x1)) (zg s 3 (Int32.toNatClampNeg x1))
    J 46 [some (.inr (.inr 0)), some (.inl (x1 + (1 : Int32)))] [] s101)
set_option maxRecDepth 100000 in
set_option maxHeartbeats 4000000 in
theorem bM_M_image_46_e (C : Nat → List zV → zS → zR) (J : Nat → zL → List zV → zS → zR) (x1 : Int32) (s : zS) : zline skM C J zT_M_image 1 500 (zT_M_image.drop 46) [some (.inr (.inr 0)), some (.inl x1)] [] s = bM_M_image_46 C J x1 s := rfl
def bM_M_image_63 (C : Nat → List zV → zS → zR) (J : Nat → zL → List zV → zS → zR) (x1 : Int32) (s : zS) : zR :=
  if (256 : Int32) ≤ x1 then (
    J 80 [some (.inr (.inr 0)), some (.inl (0 : Int32))] [] s)
  else (
    zin x1 256 <|
    zin ((640 : Int32) + x1) 1108 <|
    let s101 : zS := zs s 24 (Int32.toNatClampNeg ((640 : Int32) + x1)) (zg s 5 (Int32.toNatClampNeg x1))
    J 63 [some (.inr (.inr 0)), some (.inl (x1 + (1 : Int32)))] [] s101)
set_option maxRecDepth 100000 in
set_option maxHeartbeats 4000000 in
theorem bM_M_image_63_e (C : Nat → List zV → zS → zR) (J : Nat → zL → List zV → zS → zR) (x1 : Int32) (s : zS) : zline skM C J zT_M_image 1 500 (zT_M_image.drop 63) [some (.inr (.inr 0)), some (.inl x1)] [] s = bM_M_image_63 C J x1 s := rfl
def bM_M_image_80 (C : Nat → List zV → zS → zR) (J : Nat → zL → List zV → zS → zR) (x1 : Int32) (s : zS) : zR :=
  if (192 : Int32) ≤ x1 then (
    let s101 : zS := zs s 24 1088 (zg s 0 0)
    let s102 : zS := zs s101 24 1089 (zg s 0 10)
    let s103 : zS := zs s102 24 1090 (zg s 0 12)
    some (some (.inl (zg s 0 0)), s103))
  else (
    zin x1 192 <|
    zin ((896 : Int32) + x1) 1108 <|
    let s104 : zS := zs s 24 (Int32.toNatClampNeg ((896 : Int32) + x1)) (zg s 10 (Int32.toNatClampNeg x1))
    J 80 [some (.inr (.inr 0)), some (.inl (x1 + (1 : Int32)))] [] s104)
set_option maxRecDepth 100000 in
set_option maxHeartbeats 4000000 in
theorem bM_M_image_80_e (C : Nat → List zV → zS → zR) (J : Nat → zL → List zV → zS → zR) (x1 : Int32) (s : zS) : zline skM C J zT_M_image 1 500 (zT_M_image.drop 80) [some (.inr (.inr 0)), some (.inl x1)] [] s = bM_M_image_80 C J x1 s := rfl
def bM_M_keepSlots_0_24_0 (C : Nat → List zV → zS → zR) (J : Nat → zL → List zV → zS → zR) (s : zS) : zR :=
  J 2 [some (.inr (.inr 0)), some (.inr (.inr 24)), some (.inl (0 : Int32))] [] s
set_option maxRecDepth 100000 in
set_option maxHeartbeats 4000000 in
theorem bM_M_keepSlots_0_24_0_e (C : Nat → List zV → zS → zR) (J : Nat → zL → List zV → zS → zR) (s : zS) : zline skM C J zT_M_keepSlots 0 500 (zT_M_keepSlots.drop 0) [some (.inr (.inr 0)), some (.inr (.inr 24)), none] [] s = bM_M_keepSlots_0_24_0 C J s := rfl
def bM_M_keepSlots_0_24_2 (C : Nat → List zV → zS → zR) (J : Nat → zL → List zV → zS → zR) (x2 : Int32) (s : zS) : zR :=
  if (16 : Int32) ≤ x2 then (
    J 25 [some (.inr (.inr 0)), some (.inr (.inr 24)), some (.inl (0 : Int32))] [] s)
  else (
    zin x2 16 <|
    zin x2 1108 <|
    let s101 : zS := zs s 24 (Int32.toNatClampNeg x2) (zg s 6 (Int32.toNatClampNeg x2))
    zin x2 16 <|
    zin ((16 : Int32) + x2) 1108 <|
    let s102 : zS := zs s101 24 (Int32.toNatClampNeg ((16 : Int32) + x2)) (zg s 7 (Int32.toNatClampNeg x2))
    J 2 [some (.inr (.inr 0)), some (.inr (.inr 24)), some (.inl (x2 + (1 : Int32)))] [] s102)
set_option maxRecDepth 100000 in
set_option maxHeartbeats 4000000 in
theorem bM_M_keepSlots_0_24_2_e (C : Nat → List zV → zS → zR) (J : Nat → zL → List zV → zS → zR) (x2 : Int32) (s : zS) : zline skM C J zT_M_keepSlots 0 500 (zT_M_keepSlots.drop 2) [some (.inr (.inr 0)), some (.inr (.inr 24)), some (.inl x2)] [] s = bM_M_keepSlots_0_24_2 C J x2 s := rfl
def bM_M_keepSlots_0_24_25 (C : Nat → List zV → zS → zR) (J : Nat → zL → List zV → zS → zR) (x2 : Int32) (s : zS) : zR :=
  if (256 : Int32) ≤ x2 then (
    some (none, s))
  else (
    zin x2 256 <|
    zin ((32 : Int32) + x2) 1108 <|
    let s101 : zS := zs s 24 (Int32.toNatClampNeg ((32 : Int32) + x2)) (zg s 8 (Int32.toNatClampNeg x2))
    zin x2 256 <|
    zin ((288 : Int32) + x2) 1108 <|
    let s102 : zS := zs s101 24 (Int32.toNatClampNeg ((288 : Int32) + x2)) (zg s 9 (Int32.toNatClampNeg x2))
    J 25 [some (.inr (.inr 0)), some (.inr (.inr 24)), some (.inl (x2 + (1 : Int32)))] [] s102)
set_option maxRecDepth 100000 in
set_option maxHeartbeats 4000000 in
theorem bM_M_keepSlots_0_24_25_e (C : Nat → List zV → zS → zR) (J : Nat → zL → List zV → zS → zR) (x2 : Int32) (s : zS) : zline skM C J zT_M_keepSlots 0 500 (zT_M_keepSlots.drop 25) [some (.inr (.inr 0)), some (.inr (.inr 24)), some (.inl x2)] [] s = bM_M_keepSlots_0_24_25 C J x2 s := rfl
def bM_M_restore_0 (C : Nat → List zV → zS → zR) (J : Nat → zL → List zV → zS → zR) (s : zS) : zR :=
  if ¬ (zg s 0 39) = 0 then (
    zcV (C 210 [.inr (.inr 0), .inr (.inr 24)] s) fun s101 =>
    J 13 [some (.inr (.inr 0)), some (.inl (0 : Int32))] [] s101)
  else (
    zcI (C 126 [.inr (.inr 0), .inl (-6 : Int32)] s) fun r103 s102 =>
    some (some (.inl r103), s102))
set_option maxRecDepth 100000 in
set_option maxHeartbeats 4000000 in
theorem bM_M_restore_0_e (C : Nat → List zV → zS → zR) (J : Nat → zL → List zV → zS → zR) (s : zS) : zline skM C J zT_M_restore 1 500 (zT_M_restore.drop 0) [some (.inr (.inr 0)), none] [] s = bM_M_restore_0 C J s := rfl
def bM_M_restore_13 (C : Nat → List zV → zS → zR) (J : Nat → zL → List zV → zS → zR) (x1 : Int32) (s : zS) : zR :=
  if (16 : Int32) ≤ x1 then (
    J 50 [some (.inr (.inr 0)), some (.inl (0 : Int32))] [] s)
  else (
    zin ((544 : Int32) + x1) 1108 <|
    zin x1 16 <|
    let s101 : zS := zs s 1 (Int32.toNatClampNeg x1) (zg s 24 (Int32.toNatClampNeg ((544 : Int32) + x1)))
    zin ((560 : Int32) + x1) 1108 <|
    zin x1 16 <|
    let s102 : zS := zs s101 2 (Int32.toNatClampNeg x1) (zg s 24 (Int32.toNatClampNeg ((560 : Int32) + x1)))
    zin ((576 : Int32) + x1) 1108 <|
    zin x1 16 <|
    let s103 : zS := zs s102 4 (Int32.toNatClampNeg x1) (zg s 24 (Int32.toNatClampNeg ((576 : Int32) + x1)))
    J 13 [some (.inr (.inr 0)), some (.inl (x1 + (1 : Int32)))] [] s103)
set_option maxRecDepth 100000 in
set_option maxHeartbeats 4000000 in
theorem bM_M_restore_13_e (C : Nat → List zV → zS → zR) (J : Nat → zL → List zV → zS → zR) (x1 : Int32) (s : zS) : zline skM C J zT_M_restore 1 500 (zT_M_restore.drop 13) [some (.inr (.inr 0)), some (.inl x1)] [] s = bM_M_restore_13 C J x1 s := rfl
def bM_M_restore_50 (C : Nat → List zV → zS → zR) (J : Nat → zL → List zV → zS → zR) (x1 : Int32) (s : zS) : zR :=
  if (48 : Int32) ≤ x1 then (
    J 67 [some (.inr (.inr 0)), some (.inl (0 : Int32))] [] s)
  else (
    zin ((592 : Int32) + x1) 1108 <|
    zin x1 48 <|
    let s101 : zS := zs s 3 (Int32.toNatClampNeg x1) (zg s 24 (Int32.toNatClampNeg ((592 : Int32) + x1)))
    J 50 [some (.inr (.inr 0)), some (.inl (x1 + (1 : Int32)))] [] s101)
set_option maxRecDepth 100000 in
set_option maxHeartbeats 4000000 in
theorem bM_M_restore_50_e (C : Nat → List zV → zS → zR) (J : Nat → zL → List zV → zS → zR) (x1 : Int32) (s : zS) : zline skM C J zT_M_restore 1 500 (zT_M_restore.drop 50) [some (.inr (.inr 0)), some (.inl x1)] [] s = bM_M_restore_50 C J x1 s := rfl
def bM_M_restore_67 (C : Nat → List zV → zS → zR) (J : Nat → zL → List zV → zS → zR) (x1 : Int32) (s : zS) : zR :=
  if (256 : Int32) ≤ x1 then (
    J 84 [some (.inr (.inr 0)), some (.inl (0 : Int32))] [] s)
  else (
    zin ((640 : Int32) + x1) 1108 <|
    zin x1 256 <|
    let s101 : zS := zs s 5 (Int32.toNatClampNeg x1) (zg s 24 (Int32.toNatClampNeg ((640 : Int32) + x1)))
    J 67 [some (.inr (.inr 0)), some (.inl (x1 + (1 : Int32)))] [] s101)
set_option maxRecDepth 100000 in
set_option maxHeartbeats 4000000 in
theorem bM_M_restore_67_e (C : Nat → List zV → zS → zR) (J : Nat → zL → List zV → zS → zR) (x1 : Int32) (s : zS) : zline skM C J zT_M_restore 1 500 (zT_M_restore.drop 67) [some (.inr (.inr 0)), some (.inl x1)] [] s = bM_M_restore_67 C J x1 s := rfl
def bM_M_restore_84 (C : Nat → List zV → zS → zR) (J : Nat → zL → List zV → zS → zR) (x1 : Int32) (s : zS) : zR :=
  if (192 : Int32) ≤ x1 then (
    let s101 : zS := zs s 0 0 (zg s 24 1088)
    let s102 : zS := zs s101 0 10 (zg s 24 1089)
    let s103 : zS := zs s102 0 12 (zg s 24 1090)
    J 119 [some (.inr (.inr 0)), some (.inl (0 : Int32))] [] s103)
  else (
    zin ((896 : Int32) + x1) 1108 <|
    zin x1 192 <|
    let s104 : zS := zs s 10 (Int32.toNatClampNeg x1) (zg s 24 (Int32.toNatClampNeg ((896 : Int32) + x1)))
    J 84 [some (.inr (.inr 0)), some (.inl (x1 + (1 : Int32)))] [] s104)
set_option maxRecDepth 100000 in
set_option maxHeartbeats 4000000 in
theorem bM_M_restore_84_e (C : Nat → List zV → zS → zR) (J : Nat → zL → List zV → zS → zR) (x1 : Int32) (s : zS) : zline skM C J zT_M_restore 1 500 (zT_M_restore.drop 84) [some (.inr (.inr 0)), some (.inl x1)] [] s = bM_M_restore_84 C J x1 s := rfl
def bM_M_restore_119 (C : Nat → List zV → zS → zR) (J : Nat → zL → List zV → zS → zR) (x1 : Int32) (s : zS) : zR :=
  if (8 : Int32) ≤ x1 then (
    some (some (.inl (zg s 0 0)), s))
  else (
    zcI (C 132 [.inr (.inr 0), .inl x1] s) fun r102 s101 =>
    if ¬ r102 = 0 then (
      J 119 [some (.inr (.inr 0)), some (.inl (x1 + (1 : Int32)))] [] s101)
    else (
      zin x1 8 <|
      if (zg s101 11 (Int32.toNatClampNeg x1)) < (zg s101 0 0) then (
        J 119 [some (.inr (.inr 0)), some (.inl (x1 + (1 : Int32)))] [] s101)
      else (
        zin x1 8 <|
        let s103 : zS := zs s101 11 (Int32.toNatClampNeg x1) (-1 : Int32)
        J 119 [some (.inr (.inr 0)), some (.inl (x1 + (1 : Int32)))] [] s103)))
set_option maxRecDepth 100000 in
set_option maxHeartbeats 4000000 in
theorem bM_M_restore_119_e (C : Nat → List zV → zS → zR) (J : Nat → zL → List zV → zS → zR) (x1 : Int32) (s : zS) : zline skM C J zT_M_restore 1 500 (zT_M_restore.drop 119) [some (.inr (.inr 0)), some (.inl x1)] [] s = bM_M_restore_119 C J x1 s := rfl
def bM_M_slotsAgain_0_24_0 (C : Nat → List zV → zS → zR) (J : Nat → zL → List zV → zS → zR) (s : zS) : zR :=
  J 2 [some (.inr (.inr 0)), some (.inr (.inr 24)), some (.inl (0 : Int32))] [] s
set_option maxRecDepth 100000 in
set_option maxHeartbeats 4000000 in
theorem bM_M_slotsAgain_0_24_0_e (C : Nat → List zV → zS → zR) (J : Nat → zL → List zV → zS → zR) (s : zS) : zline skM C J zT_M_slotsAgain 0 500 (zT_M_slotsAgain.drop 0) [some (.inr (.inr 0)), some (.inr (.inr 24)), none] [] s = bM_M_slotsAgain_0_24_0 C J s := rfl
def bM_M_slotsAgain_0_24_2 (C : Nat → List zV → zS → zR) (J : Nat → zL → List zV → zS → zR) (x2 : Int32) (s : zS) : zR :=
  if (16 : Int32) ≤ x2 then (
    J 25 [some (.inr (.inr 0)), some (.inr (.inr 24)), some (.inl (0 : Int32))] [] s)
  else (
    zin x2 1108 <|
    zin x2 16 <|
    let s101 : zS := zs s 6 (Int32.toNatClampNeg x2) (zg s 24 (Int32.toNatClampNeg x2))
    zin ((16 : Int32) + x2) 1108 <|
    zin x2 16 <|
    let s102 : zS := zs s101 7 (Int32.toNatClampNeg x2) (zg s 24 (Int32.toNatClampNeg ((16 : Int32) + x2)))
    J 2 [some (.inr (.inr 0)), some (.inr (.inr 24)), some (.inl (x2 + (1 : Int32)))] [] s102)
set_option maxRecDepth 100000 in
set_option maxHeartbeats 4000000 in
theorem bM_M_slotsAgain_0_24_2_e (C : Nat → List zV → zS → zR) (J : Nat → zL → List zV → zS → zR) (x2 : Int32) (s : zS) : zline skM C J zT_M_slotsAgain 0 500 (zT_M_slotsAgain.drop 2) [some (.inr (.inr 0)), some (.inr (.inr 24)), some (.inl x2)] [] s = bM_M_slotsAgain_0_24_2 C J x2 s := rfl
def bM_M_slotsAgain_0_24_25 (C : Nat → List zV → zS → zR) (J : Nat → zL → List zV → zS → zR) (x2 : Int32) (s : zS) : zR :=
  if (256 : Int32) ≤ x2 then (
    some (none, s))
  else (
    zin ((32 : Int32) + x2) 1108 <|
    zin x2 256 <|
    let s101 : zS := zs s 8 (Int32.toNatClampNeg x2) (zg s 24 (Int32.toNatClampNeg ((32 : Int32) + x2)))
    zin ((288 : Int32) + x2) 1108 <|
    zin x2 256 <|
    let s102 : zS := zs s101 9 (Int32.toNatClampNeg x2) (zg s 24 (Int32.toNatClampNeg ((288 : Int32) + x2)))
    J 25 [some (.inr (.inr 0)), some (.inr (.inr 24)), some (.inl (x2 + (1 : Int32)))] [] s102)
set_option maxRecDepth 100000 in
set_option maxHeartbeats 4000000 in
theorem bM_M_slotsAgain_0_24_25_e (C : Nat → List zV → zS → zR) (J : Nat → zL → List zV → zS → zR) (x2 : Int32) (s : zS) : zline skM C J zT_M_slotsAgain 0 500 (zT_M_slotsAgain.drop 25) [some (.inr (.inr 0)), some (.inr (.inr 24)), some (.inl x2)] [] s = bM_M_slotsAgain_0_24_25 C J x2 s := rfl
def bM_M_status_0 (C : Nat → List zV → zS → zR) (J : Nat → zL → List zV → zS → zR) (x1 : Int32) (s : zS) : zR :=
  zcI (C 128 [.inl x1, .inl (11 : Int32), .inl (17 : Int32)] s) fun r102 s101 =>
  if r102 = 0 then (
    if x1 = (0 : Int32) then (
      some (some (.inl (zg s101 0 0)), s101))
    else (
    if x1 = ((0 : Int32) + 1) then (
      some (some (.inl (zg s101 0 10)), s101))
    else (
    if x1 = (((0 : Int32) + 1) + 1) then (
      zcI (C 206 [.inr (.inr 0)] s101) fun r104 s103 =>
      some (some (.inl r104), s103))
    else (
    if x1 = ((((0 : Int32) + 1) + 1) + 1) then (
      zcI (C 213 [.inr (.inr 0)] s101) fun r106 s105 =>
      some (some (.inl r106), s105))
    else (
    if x1 = (((((0 : Int32) + 1) + 1) + 1) + 1) then (
      some (some (.inl (zg s101 0 12)), s101))
    else (
    if x1 = ((((((0 : Int32) + 1) + 1) + 1) + 1) + 1) then (
      some (some (.inl (zg s101 0 32)), s101))
    else (
    if x1 = (((((((0 : Int32) + 1) + 1) + 1) + 1) + 1) + 1) then (
      some (some (.inl (zg s101 0 31)), s101))
    else (
      some (some (.inl (-1 : Int32)), s101)))))))))
  else (
    zin (x1 - (10 : Int32)) 8 <|
    some (some (.inl (zg s101 15 (Int32.toNatClampNeg (x1 - (10 : Int32))))), s101))
set_option maxRecDepth 100000 in
set_option maxHeartbeats 4000000 in
theorem bM_M_status_0_e (C : Nat → List zV → zS → zR) (J : Nat → zL → List zV → zS → zR) (x1 : Int32) (s : zS) : zline skM C J zT_M_status 1 500 (zT_M_status.drop 0) [some (.inr (.inr 0)), some (.inl x1)] [] s = bM_M_status_0 C J x1 s := rfl
def bM_M_allMethods_0 (C : Nat → List zV → zS → zR) (J : Nat → zL → List zV → zS → zR) (s : zS) : zR :=
  J 4 [some (.inr (.inr 0)), some (.inl (0 : Int32)), some (.inl (0 : Int32))] [] s
set_option maxRecDepth 100000 in
set_option maxHeartbeats 4000000 in
theorem bM_M_allMethods_0_e (C : Nat → List zV → zS → zR) (J : Nat → zL → List zV → zS → zR) (s : zS) : zline skM C J zT_M_allMethods 1 500 (zT_M_allMethods.drop 0) [some (.inr (.inr 0)), none, none] [] s = bM_M_allMethods_0 C J s := rfl
def bM_M_allMethods_4 (C : Nat → List zV → zS → zR) (J : Nat → zL → List zV → zS → zR) (x1 : Int32) (x2 : Int32) (s : zS) : zR :=
  if (zg s 0 0) ≤ x2 then (
    some (some (.inl x1), s))
  else (
    zin x2 16 <|
    zcI (C 215 [.inl (zg s 7 (Int32.toNatClampNeg x2))] s) fun r102 s101 =>
    J 4 [some (.inr (.inr 0)), some (.inl (x1 + r102)), some (.inl (x2 + (1 : Int32)))] [] s101)
set_option maxRecDepth 100000 in
set_option maxHeartbeats 4000000 in
theorem bM_M_allMethods_4_e (C : Nat → List zV → zS → zR) (J : Nat → zL → List zV → zS → zR) (x1 : Int32) (x2 : Int32) (s : zS) : zline skM C J zT_M_allMethods 1 500 (zT_M_allMethods.drop 4) [some (.inr (.inr 0)), some (.inl x1), some (.inl x2)] [] s = bM_M_allMethods_4 C J x1 x2 s := rfl
