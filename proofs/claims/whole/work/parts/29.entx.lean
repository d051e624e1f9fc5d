set_option maxRecDepth 100000 in
theorem aX_X_row (d : Nat) (x1 : Int32) (x2 : Int32) (x3 : Int32) (s : zS) : zcall zMs skX (d + 1) 82 [.inr (.inr 0), .inl x1, .inl x2, .inl x3] s = bX_X_row_0 (zcall zMs skX d) (zexec skX (zcall zMs skX d) zT_X_row 1 19999) x1 x2 x3 s := bX_X_row_0_e (zcall zMs skX d) (zexec skX (zcall zMs skX d) zT_X_row 1 19999) x1 x2 x3 s
set_option maxRecDepth 100000 in
theorem aX_H_isShelf (d : Nat) (x1 : Int32) (s : zS) : zcall zMs skX (d + 1) 47 [.inr (.inr 32), .inl x1] s = bX_H_isShelf_0 (zcall zMs skX d) (zexec skX (zcall zMs skX d) zT_H_isShelf 3 19999) x1 s := bX_H_isShelf_0_e (zcall zMs skX d) (zexec skX (zcall zMs skX d) zT_H_isShelf 3 19999) x1 s
set_option maxRecDepth 100000 in
theorem aX_H_lay (d : Nat) (x1 : Int32) (x2 : Int32) (x3 : Int32) (s : zS) : zcall zMs skX (d + 1) 52 [.inr (.inr 32), .inl x1, .inl x2, .inl x3] s = bX_H_lay_0 (zcall zMs skX d) (zexec skX (zcall zMs skX d) zT_H_lay 0 19999) x1 x2 x3 s := bX_H_lay_0_e (zcall zMs skX d) (zexec skX (zcall zMs skX d) zT_H_lay 0 19999) x1 x2 x3 s
set_option maxRecDepth 100000 in
theorem aX_J_fill (d : Nat) (x1 : Int32) (x2 : Int32) (x3 : Int64) (s : zS) : zcall zMs skX (d + 1) 219 [.inr (.inr 35), .inl x1, .inl x2, .inr (.inl x3)] s = bX_J_fill_0 (zcall zMs skX d) (zexec skX (zcall zMs skX d) zT_J_fill 0 19999) x1 x2 x3 s := bX_J_fill_0_e (zcall zMs skX d) (zexec skX (zcall zMs skX d) zT_J_fill 0 19999) x1 x2 x3 s
set_option maxRecDepth 100000 in
theorem hX_J_fill_7 (C : Nat → List zV → zS → zR) (n : Nat) (x2 : Int32) (x3 : Int64) (x5 : Int32) (s : zS) : zexec skX C zT_J_fill 0 (n + 1) 7 [some (.inr (.inr 35)), none, some (.inl x2), some (.inr (.inl x3)), none, some (.inl x5)] [] s = bX_J_fill_7 C (zexec skX C zT_J_fill 0 n) x2 x3 x5 s := bX_J_fill_7_e C (zexec skX C zT_J_fill 0 n) x2 x3 x5 s
set_option maxRecDepth 100000 in
theorem aX_J_rangeCheck (d : Nat) (x0 : Int32) (x1 : Int32) (x2 : Int32) (s : zS) : zcall zMs skX (d + 1) 218 [.inl x0, .inl x1, .inl x2] s = bX_J_rangeCheck_0 (zcall zMs skX d) (zexec skX (zcall zMs skX d) zT_J_rangeCheck 0 19999) x0 x1 x2 s := bX_J_rangeCheck_0_e (zcall zMs skX d) (zexec skX (zcall zMs skX d) zT_J_rangeCheck 0 19999) x0 x1 x2 s
set_option maxRecDepth 100000 in
theorem aX_X_refuse (d : Nat) (x1 : Int32) (s : zS) : zcall zMs skX (d + 1) 117 [.inr (.inr 0), .inl x1] s = bX_X_refuse_0 (zcall zMs skX d) (zexec skX (zcall zMs skX d) zT_X_refuse 1 19999) x1 s := bX_X_refuse_0_e (zcall zMs skX d) (zexec skX (zcall zMs skX d) zT_X_refuse 1 19999) x1 s
set_option maxRecDepth 100000 in
theorem aX_X_set (d : Nat) (x1 : Int32) (x2 : Int32) (x3 : Int64) (s : zS) : zcall zMs skX (d + 1) 83 [.inr (.inr 0), .inl x1, .inl x2, .inr (.inl x3)] s = bX_X_set_0 (zcall zMs skX d) (zexec skX (zcall zMs skX d) zT_X_set 1 19999) x1 x2 x3 s := bX_X_set_0_e (zcall zMs skX d) (zexec skX (zcall zMs skX d) zT_X_set 1 19999) x1 x2 x3 s
set_option maxRecDepth 100000 in
theorem aX_H_hasElement (d : Nat) (x1 : Int32) (x2 : Int32) (s : zS) : zcall zMs skX (d + 1) 53 [.inr (.inr 32), .inl x1, .inl x2] s = bX_H_hasElement_0 (zcall zMs skX d) (zexec skX (zcall zMs skX d) zT_H_hasElement 3 19999) x1 x2 s := bX_H_hasElement_0_e (zcall zMs skX d) (zexec skX (zcall zMs skX d) zT_H_hasElement 3 19999) x1 x2 s
set_option maxRecDepth 100000 in
theorem aX_H_holdsRow (d : Nat) (x1 : Int32) (s : zS) : zcall zMs skX (d + 1) 48 [.inr (.inr 32), .inl x1] s = bX_H_holdsRow_0 (zcall zMs skX d) (zexec skX (zcall zMs skX d) zT_H_holdsRow 3 19999) x1 s := bX_H_holdsRow_0_e (zcall zMs skX d) (zexec skX (zcall zMs skX d) zT_H_holdsRow 3 19999) x1 s
set_option maxRecDepth 100000 in
theorem aX_H_put (d : Nat) (x1 : Int32) (x2 : Int32) (x3 : Int64) (s : zS) : zcall zMs skX (d + 1) 55 [.inr (.inr 32), .inl x1, .inl x2, .inr (.inl x3)] s = bX_H_put_0 (zcall zMs skX d) (zexec skX (zcall zMs skX d) zT_H_put 0 19999) x1 x2 x3 s := bX_H_put_0_e (zcall zMs skX d) (zexec skX (zcall zMs skX d) zT_H_put 0 19999) x1 x2 x3 s
set_option maxRecDepth 100000 in
theorem aX_H_whyNoRow (d : Nat) (x1 : Int32) (s : zS) : zcall zMs skX (d + 1) 51 [.inr (.inr 32), .inl x1] s = bX_H_whyNoRow_0 (zcall zMs skX d) (zexec skX (zcall zMs skX d) zT_H_whyNoRow 1 19999) x1 s := bX_H_whyNoRow_0_e (zcall zMs skX d) (zexec skX (zcall zMs skX d) zT_H_whyNoRow 1 19999) x1 s
set_option maxRecDepth 100000 in
theorem aX_H_holdsObject (d : Nat) (x1 : Int32) (s : zS) : zcall zMs skX (d + 1) 49 [.inr (.inr 32), .inl x1] s = bX_H_holdsObject_0 (zcall zMs skX d) (zexec skX (zcall zMs skX d) zT_H_holdsObject 3 19999) x1 s := bX_H_holdsObject_0_e (zcall zMs skX d) (zexec skX (zcall zMs skX d) zT_H_holdsObject 3 19999) x1 s
set_option maxRecDepth 100000 in
theorem aX_X_copy (d : Nat) (x1 : Int32) (x2 : Int32) (x3 : Int32) (x4 : Int32) (x5 : Int32) (s : zS) : zcall zMs skX (d + 1) 84 [.inr (.inr 0), .inl x1, .inl x2, .inl x3, .inl x4, .inl x5] s = bX_X_copy_0 (zcall zMs skX d) (zexec skX (zcall zMs skX d) zT_X_copy 1 19999) x1 x2 x3 x4 x5 s := bX_X_copy_0_e (zcall zMs skX d) (zexec skX (zcall zMs skX d) zT_X_copy 1 19999) x1 x2 x3 x4 x5 s
set_option maxRecDepth 100000 in
theorem aX_H_areOfTwoSorts (d : Nat) (x1 : Int32) (x2 : Int32) (s : zS) : zcall zMs skX (d + 1) 50 [.inr (.inr 32), .inl x1, .inl x2] s = bX_H_areOfTwoSorts_0 (zcall zMs skX d) (zexec skX (zcall zMs skX d) zT_H_areOfTwoSorts 3 19999) x1 x2 s := bX_H_areOfTwoSorts_0_e (zcall zMs skX d) (zexec skX (zcall zMs skX d) zT_H_areOfTwoSorts 3 19999) x1 x2 s
set_option maxRecDepth 100000 in
theorem aX_H_hasStretch (d : Nat) (x1 : Int32) (x2 : Int32) (x3 : Int32) (s : zS) : zcall zMs skX (d + 1) 54 [.inr (.inr 32), .inl x1, .inl x2, .inl x3] s = bX_H_hasStretch_0 (zcall zMs skX d) (zexec skX (zcall zMs skX d) zT_H_hasStretch 3 19999) x1 x2 x3 s := bX_H_hasStretch_0_e (zcall zMs skX d) (zexec skX (zcall zMs skX d) zT_H_hasStretch 3 19999) x1 x2 x3 s
set_option maxRecDepth 100000 in
theorem aX_H_move (d : Nat) (x1 : Int32) (x2 : Int32) (x3 : Int32) (x4 : Int32) (x5 : Int32) (s : zS) : zcall zMs skX (d + 1) 56 [.inr (.inr 32), .inl x1, .inl x2, .inl x3, .inl x4, .inl x5] s = bX_H_move_0 (zcall zMs skX d) (zexec skX (zcall zMs skX d) zT_H_move 0 19999) x1 x2 x3 x4 x5 s := bX_H_move_0_e (zcall zMs skX d) (zexec skX (zcall zMs skX d) zT_H_move 0 19999) x1 x2 x3 x4 x5 s
set_option maxRecDepth 100000 in
theorem aX_X_element (d : Nat) (x1 : Int32) (x2 : Int32) (s : zS) : zcall zMs skX (d + 1) 85 [.inr (.inr 0), .inl x1, .inl x2] s = bX_X_element_0 (zcall zMs skX d) (zexec skX (zcall zMs skX d) zT_X_element 2 19999) x1 x2 s := bX_X_element_0_e (zcall zMs skX d) (zexec skX (zcall zMs skX d) zT_X_element 2 19999) x1 x2 s
set_option maxRecDepth 100000 in
theorem aX_H_longAt (d : Nat) (x1 : Int32) (x2 : Int32) (s : zS) : zcall zMs skX (d + 1) 57 [.inr (.inr 32), .inl x1, .inl x2] s = bX_H_longAt_0 (zcall zMs skX d) (zexec skX (zcall zMs skX d) zT_H_longAt 2 19999) x1 x2 s := bX_H_longAt_0_e (zcall zMs skX d) (zexec skX (zcall zMs skX d) zT_H_longAt 2 19999) x1 x2 s
set_option maxRecDepth 100000 in
theorem aX_X_show (d : Nat) (x1 : Int32) (x2 : Int32) (s : zS) : zcall zMs skX (d + 1) 86 [.inr (.inr 0), .inl x1, .inl x2] s = bX_X_show_0 (zcall zMs skX d) (zexec skX (zcall zMs skX d) zT_X_show 1 19999) x1 x2 s := bX_X_show_0_e (zcall zMs skX d) (zexec skX (zcall zMs skX d) zT_X_show 1 19999) x1 x2 s
set_option maxRecDepth 100000 in
theorem aX_W_hasObject (d : Nat) (x1 : Int32) (s : zS) : zcall zMs skX (d + 1) 60 [.inr (.inr 2), .inl x1] s = bX_W_hasObject_0 (zcall zMs skX d) (zexec skX (zcall zMs skX d) zT_W_hasObject 3 19999) x1 s := bX_W_hasObject_0_e (zcall zMs skX d) (zexec skX (zcall zMs skX d) zT_W_hasObject 3 19999) x1 s
set_option maxRecDepth 100000 in
theorem aX_X_holds (d : Nat) (x1 : Int32) (s : zS) : zcall zMs skX (d + 1) 87 [.inr (.inr 0), .inl x1] s = bX_X_holds_0 (zcall zMs skX d) (zexec skX (zcall zMs skX d) zT_X_holds 1 19999) x1 s := bX_X_holds_0_e (zcall zMs skX d) (zexec skX (zcall zMs skX d) zT_X_holds 1 19999) x1 s
set_option maxRecDepth 100000 in
theorem aX_X_says (d : Nat) (x1 : Int32) (x2 : Int32) (s : zS) : zcall zMs skX (d + 1) 88 [.inr (.inr 0), .inl x1, .inl x2] s = bX_X_says_0 (zcall zMs skX d) (zexec skX (zcall zMs skX d) zT_X_says 1 19999) x1 x2 s := bX_X_says_0_e (zcall zMs skX d) (zexec skX (zcall zMs skX d) zT_X_says 1 19999) x1 x2 s
set_option maxRecDepth 100000 in
theorem aX_J_bitCount (d : Nat) (x0 : Int32) (s : zS) : zcall zMs skX (d + 1) 215 [.inl x0] s = bX_J_bitCount_0 (zcall zMs skX d) (zexec skX (zcall zMs skX d) zT_J_bitCount 1 19999) x0 s := bX_J_bitCount_0_e (zcall zMs skX d) (zexec skX (zcall zMs skX d) zT_J_bitCount 1 19999) x0 s
set_option maxRecDepth 100000 in
theorem aX_W_isOfKind (d : Nat) (x1 : Int32) (x2 : Int32) (s : zS) : zcall zMs skX (d + 1) 66 [.inr (.inr 2), .inl x1, .inl x2] s = bX_W_isOfKind_0 (zcall zMs skX d) (zexec skX (zcall zMs skX d) zT_W_isOfKind 3 19999) x1 x2 s := bX_W_isOfKind_0_e (zcall zMs skX d) (zexec skX (zcall zMs skX d) zT_W_isOfKind 3 19999) x1 x2 s
set_option maxRecDepth 100000 in
theorem aX_W_ownSlots (d : Nat) (x1 : Int32) (s : zS) : zcall zMs skX (d + 1) 74 [.inr (.inr 2), .inl x1] s = bX_W_ownSlots_0 (zcall zMs skX d) (zexec skX (zcall zMs skX d) zT_W_ownSlots 1 19999) x1 s := bX_W_ownSlots_0_e (zcall zMs skX d) (zexec skX (zcall zMs skX d) zT_W_ownSlots 1 19999) x1 s
set_option maxRecDepth 100000 in
theorem hX_W_ownSlots_4 (C : Nat → List zV → zS → zR) (n : Nat) (x1 : Int32) (x2 : Int32) (x3 : Int32) (s : zS) : zexec skX C zT_W_ownSlots 1 (n + 1) 4 [some (.inr (.inr 2)), some (.inl x1), some (.inl x2), some (.inl x3)] [] s = bX_W_ownSlots_4 C (zexec skX C zT_W_ownSlots 1 n) x1 x2 x3 s := bX_W_ownSlots_4_e C (zexec skX C zT_W_ownSlots 1 n) x1 x2 x3 s
set_option maxRecDepth 100000 in
theorem aX_W_hasOwn (d : Nat) (x1 : Int32) (x2 : Int32) (s : zS) : zcall zMs skX (d + 1) 68 [.inr (.inr 2), .inl x1, .inl x2] s = bX_W_hasOwn_0 (zcall zMs skX d) (zexec skX (zcall zMs skX d) zT_W_hasOwn 3 19999) x1 x2 s := bX_W_hasOwn_0_e (zcall zMs skX d) (zexec skX (zcall zMs skX d) zT_W_hasOwn 3 19999) x1 x2 s
set_option maxRecDepth 100000 in
theorem aX_X_isKind (d : Nat) (x0 : Int32) (s : zS) : zcall zMs skX (d + 1) 121 [.inl x0] s = bX_X_isKind_0 (zcall zMs skX d) (zexec skX (zcall zMs skX d) zT_X_isKind 3 19999) x0 s := bX_X_isKind_0_e (zcall zMs skX d) (zexec skX (zcall zMs skX d) zT_X_isKind 3 19999) x0 s
set_option maxRecDepth 100000 in
theorem aX_X_read (d : Nat) (x1 : Int32) (s : zS) : zcall zMs skX (d + 1) 89 [.inr (.inr 0), .inl x1] s = bX_X_read_0 (zcall zMs skX d) (zexec skX (zcall zMs skX d) zT_X_read 1 19999) x1 s := bX_X_read_0_e (zcall zMs skX d) (zexec skX (zcall zMs skX d) zT_X_read 1 19999) x1 s
set_option maxRecDepth 100000 in
theorem aX_D_lay (d : Nat) (x2 : Int32) (s : zS) : zcall zMs skX (d + 1) 16 [.inr (.inr 42), .inr (.inr 32), .inl x2] s = bX_D_lay_0 (zcall zMs skX d) (zexec skX (zcall zMs skX d) zT_D_lay 0 19999) x2 s := bX_D_lay_0_e (zcall zMs skX d) (zexec skX (zcall zMs skX d) zT_D_lay 0 19999) x2 s
set_option maxRecDepth 100000 in
theorem hX_D_lay_8 (C : Nat → List zV → zS → zR) (n : Nat) (x2 : Int32) (x3 : Int32) (s : zS) : zexec skX C zT_D_lay 0 (n + 1) 8 [some (.inr (.inr 42)), some (.inr (.inr 32)), some (.inl x2), some (.inl x3)] [] s = bX_D_lay_8 C (zexec skX C zT_D_lay 0 n) x2 x3 s := bX_D_lay_8_e C (zexec skX C zT_D_lay 0 n) x2 x3 s
set_option maxRecDepth 100000 in
theorem aX_H_intAt (d : Nat) (x1 : Int32) (x2 : Int32) (s : zS) : zcall zMs skX (d + 1) 58 [.inr (.inr 32), .inl x1, .inl x2] s = bX_H_intAt_0 (zcall zMs skX d) (zexec skX (zcall zMs skX d) zT_H_intAt 1 19999) x1 x2 s := bX_H_intAt_0_e (zcall zMs skX d) (zexec skX (zcall zMs skX d) zT_H_intAt 1 19999) x1 x2 s
set_option maxRecDepth 100000 in
theorem aX_D_readText (d : Nat) (s : zS) : zcall zMs skX (d + 1) 17 [.inr (.inr 42), .inr (.inr 2), .inr (.inr 36)] s = bX_D_readText_0 (zcall zMs skX d) (zexec skX (zcall zMs skX d) zT_D_readText 1 19999) s := bX_D_readText_0_e (zcall zMs skX d) (zexec skX (zcall zMs skX d) zT_D_readText 1 19999) s
set_option maxRecDepth 100000 in
theorem hX_D_readText_16 (C : Nat → List zV → zS → zR) (n : Nat) (x3 : Int32) (x4 : Int32) (x5 : Int32) (s : zS) : zexec skX C zT_D_readText 1 (n + 1) 16 [some (.inr (.inr 42)), some (.inr (.inr 2)), some (.inr (.inr 36)), some (.inl x3), some (.inl x4), some (.inl x5)] [] s = bX_D_readText_16 C (zexec skX C zT_D_readText 1 n) x3 x4 x5 s := bX_D_readText_16_e C (zexec skX C zT_D_readText 1 n) x3 x4 x5 s
set_option maxRecDepth 100000 in
theorem aX_D_pass (d : Nat) (x1 : Int32) (s : zS) : zcall zMs skX (d + 1) 24 [.inr (.inr 42), .inl x1] s = bX_D_pass_0 (zcall zMs skX d) (zexec skX (zcall zMs skX d) zT_D_pass 3 19999) x1 s := bX_D_pass_0_e (zcall zMs skX d) (zexec skX (zcall zMs skX d) zT_D_pass 3 19999) x1 s
set_option maxRecDepth 100000 in
theorem aX_D_markFault (d : Nat) (x1 : Int32) (s : zS) : zcall zMs skX (d + 1) 27 [.inr (.inr 42), .inl x1] s = bX_D_markFault_0 (zcall zMs skX d) (zexec skX (zcall zMs skX d) zT_D_markFault 3 19999) x1 s := bX_D_markFault_0_e (zcall zMs skX d) (zexec skX (zcall zMs skX d) zT_D_markFault 3 19999) x1 s
set_option maxRecDepth 100000 in
theorem aX_D_stands (d : Nat) (x1 : Int32) (s : zS) : zcall zMs skX (d + 1) 25 [.inr (.inr 42), .inl x1] s = bX_D_stands_0 (zcall zMs skX d) (zexec skX (zcall zMs skX d) zT_D_stands 3 19999) x1 s := bX_D_stands_0_e (zcall zMs skX d) (zexec skX (zcall zMs skX d) zT_D_stands 3 19999) x1 s
set_option maxRecDepth 100000 in
theorem aX_D_readItem (d : Nat) (s : zS) : zcall zMs skX (d + 1) 18 [.inr (.inr 42), .inr (.inr 2), .inr (.inr 36)] s = bX_D_readItem_0 (zcall zMs skX d) (zexec skX (zcall zMs skX d) zT_D_readItem 3 19999) s := bX_D_readItem_0_e (zcall zMs skX d) (zexec skX (zcall zMs skX d) zT_D_readItem 3 19999) s
set_option maxRecDepth 100000 in
theorem aX_D_digitStands (d : Nat) (s : zS) : zcall zMs skX (d + 1) 26 [.inr (.inr 42)] s = bX_D_digitStands_0 (zcall zMs skX d) (zexec skX (zcall zMs skX d) zT_D_digitStands 3 19999) s := bX_D_digitStands_0_e (zcall zMs skX d) (zexec skX (zcall zMs skX d) zT_D_digitStands 3 19999) s
set_option maxRecDepth 100000 in
theorem aX_D_readParents (d : Nat) (s : zS) : zcall zMs skX (d + 1) 19 [.inr (.inr 42), .inr (.inr 2), .inr (.inr 36)] s = bX_D_readParents_0 (zcall zMs skX d) (zexec skX (zcall zMs skX d) zT_D_readParents 3 19999) s := bX_D_readParents_0_e (zcall zMs skX d) (zexec skX (zcall zMs skX d) zT_D_readParents 3 19999) s
set_option maxRecDepth 100000 in
theorem hX_D_readParents_2 (C : Nat → List zV → zS → zR) (n : Nat) (x3 : Int32) (s : zS) : zexec skX C zT_D_readParents 3 (n + 1) 2 [some (.inr (.inr 42)), some (.inr (.inr 2)), some (.inr (.inr 36)), some (.inl x3), none] [] s = bX_D_readParents_2 C (zexec skX C zT_D_readParents 3 n) x3 s := bX_D_readParents_2_e C (zexec skX C zT_D_readParents 3 n) x3 s
set_option maxRecDepth 100000 in
theorem aX_D_readNumber (d : Nat) (x1 : Int32) (s : zS) : zcall zMs skX (d + 1) 23 [.inr (.inr 42), .inl x1] s = bX_D_readNumber_0 (zcall zMs skX d) (zexec skX (zcall zMs skX d) zT_D_readNumber 3 19999) x1 s := bX_D_readNumber_0_e (zcall zMs skX d) (zexec skX (zcall zMs skX d) zT_D_readNumber 3 19999) x1 s
set_option maxRecDepth 100000 in
theorem hX_D_readNumber_8 (C : Nat → List zV → zS → zR) (n : Nat) (s : zS) : zexec skX C zT_D_readNumber 3 (n + 1) 8 [some (.inr (.inr 42)), none, none] [] s = bX_D_readNumber_8 C (zexec skX C zT_D_readNumber 3 n) s := bX_D_readNumber_8_e C (zexec skX C zT_D_readNumber 3 n) s
set_option maxRecDepth 100000 in
theorem aX_G_tellOneMore (d : Nat) (x1 : Int32) (s : zS) : zcall zMs skX (d + 1) 8 [.inr (.inr 36), .inl x1] s = bX_G_tellOneMore_0 (zcall zMs skX d) (zexec skX (zcall zMs skX d) zT_G_tellOneMore 0 19999) x1 s := bX_G_tellOneMore_0_e (zcall zMs skX d) (zexec skX (zcall zMs skX d) zT_G_tellOneMore 0 19999) x1 s
set_option maxRecDepth 100000 in
theorem aX_G_tells (d : Nat) (x1 : Int32) (s : zS) : zcall zMs skX (d + 1) 7 [.inr (.inr 36), .inl x1] s = bX_G_tells_0 (zcall zMs skX d) (zexec skX (zcall zMs skX d) zT_G_tells 3 19999) x1 s := bX_G_tells_0_e (zcall zMs skX d) (zexec skX (zcall zMs skX d) zT_G_tells 3 19999) x1 s
set_option maxRecDepth 100000 in
theorem hX_G_tells_2 (C : Nat → List zV → zS → zR) (n : Nat) (x1 : Int32) (x2 : Int32) (s : zS) : zexec skX C zT_G_tells 3 (n + 1) 2 [some (.inr (.inr 36)), some (.inl x1), some (.inl x2)] [] s = bX_G_tells_2 C (zexec skX C zT_G_tells 3 n) x1 x2 s := bX_G_tells_2_e C (zexec skX C zT_G_tells 3 n) x1 x2 s
set_option maxRecDepth 100000 in
theorem aX_D_readSlots (d : Nat) (x2 : Int32) (s : zS) : zcall zMs skX (d + 1) 20 [.inr (.inr 42), .inr (.inr 2), .inl x2] s = bX_D_readSlots_0 (zcall zMs skX d) (zexec skX (zcall zMs skX d) zT_D_readSlots 3 19999) x2 s := bX_D_readSlots_0_e (zcall zMs skX d) (zexec skX (zcall zMs skX d) zT_D_readSlots 3 19999) x2 s
set_option maxRecDepth 100000 in
theorem hX_D_readSlots_2 (C : Nat → List zV → zS → zR) (n : Nat) (x2 : Int32) (x3 : Int32) (s : zS) : zexec skX C zT_D_readSlots 3 (n + 1) 2 [some (.inr (.inr 42)), some (.inr (.inr 2)), some (.inl x2), some (.inl x3), none] [] s = bX_D_readSlots_2 C (zexec skX C zT_D_readSlots 3 n) x2 x3 s := bX_D_readSlots_2_e C (zexec skX C zT_D_readSlots 3 n) x2 x3 s
set_option maxRecDepth 100000 in
theorem aX_D_readMethod (d : Nat) (x2 : Int32) (x3 : Int32) (s : zS) : zcall zMs skX (d + 1) 22 [.inr (.inr 42), .inr (.inr 2), .inl x2, .inl x3] s = bX_D_readMethod_0 (zcall zMs skX d) (zexec skX (zcall zMs skX d) zT_D_readMethod 3 19999) x2 x3 s := bX_D_readMethod_0_e (zcall zMs skX d) (zexec skX (zcall zMs skX d) zT_D_readMethod 3 19999) x2 x3 s
set_option maxRecDepth 100000 in
theorem aX_W_putMethod (d : Nat) (x1 : Int32) (x2 : Int32) (x3 : Int32) (x4 : Int32) (s : zS) : zcall zMs skX (d + 1) 70 [.inr (.inr 2), .inl x1, .inl x2, .inl x3, .inl x4] s = bX_W_putMethod_0 (zcall zMs skX d) (zexec skX (zcall zMs skX d) zT_W_putMethod 0 19999) x1 x2 x3 x4 s := bX_W_putMethod_0_e (zcall zMs skX d) (zexec skX (zcall zMs skX d) zT_W_putMethod 0 19999) x1 x2 x3 x4 s
set_option maxRecDepth 100000 in
theorem aX_D_readValue (d : Nat) (x2 : Int32) (x3 : Int32) (s : zS) : zcall zMs skX (d + 1) 21 [.inr (.inr 42), .inr (.inr 2), .inl x2, .inl x3] s = bX_D_readValue_0 (zcall zMs skX d) (zexec skX (zcall zMs skX d) zT_D_readValue 3 19999) x2 x3 s := bX_D_readValue_0_e (zcall zMs skX d) (zexec skX (zcall zMs skX d) zT_D_readValue 3 19999) x2 x3 s
set_option maxRecDepth 100000 in
theorem aX_W_putValue (d : Nat) (x1 : Int32) (x2 : Int32) (x3 : Int32) (s : zS) : zcall zMs skX (d + 1) 69 [.inr (.inr 2), .inl x1, .inl x2, .inl x3] s = bX_W_putValue_0 (zcall zMs skX d) (zexec skX (zcall zMs skX d) zT_W_putValue 0 19999) x1 x2 x3 s := bX_W_putValue_0_e (zcall zMs skX d) (zexec skX (zcall zMs skX d) zT_W_putValue 0 19999) x1 x2 x3 s
set_option maxRecDepth 100000 in
theorem aX_G_findOrder (d : Nat) (s : zS) : zcall zMs skX (d + 1) 10 [.inr (.inr 36), .inr (.inr 2)] s = bX_G_findOrder_0 (zcall zMs skX d) (zexec skX (zcall zMs skX d) zT_G_findOrder 3 19999) s := bX_G_findOrder_0_e (zcall zMs skX d) (zexec skX (zcall zMs skX d) zT_G_findOrder 3 19999) s
set_option maxRecDepth 100000 in
theorem hX_G_findOrder_8 (C : Nat → List zV → zS → zR) (n : Nat) (x2 : Int32) (s : zS) : zexec skX C zT_G_findOrder 3 (n + 1) 8 [some (.inr (.inr 36)), none, some (.inl x2), none] [] s = bX_G_findOrder_8 C (zexec skX C zT_G_findOrder 3 n) x2 s := bX_G_findOrder_8_e C (zexec skX C zT_G_findOrder 3 n) x2 s
set_option maxRecDepth 100000 in
theorem aX_G_areAllEmpty (d : Nat) (s : zS) : zcall zMs skX (d + 1) 12 [.inr (.inr 36)] s = bX_G_areAllEmpty_0 (zcall zMs skX d) (zexec skX (zcall zMs skX d) zT_G_areAllEmpty 3 19999) s := bX_G_areAllEmpty_0_e (zcall zMs skX d) (zexec skX (zcall zMs skX d) zT_G_areAllEmpty 3 19999) s
set_option maxRecDepth 100000 in
theorem hX_G_areAllEmpty_2 (C : Nat → List zV → zS → zR) (n : Nat) (x1 : Int32) (s : zS) : zexec skX C zT_G_areAllEmpty 3 (n + 1) 2 [some (.inr (.inr 36)), some (.inl x1)] [] s = bX_G_areAllEmpty_2 C (zexec skX C zT_G_areAllEmpty 3 n) x1 s := bX_G_areAllEmpty_2_e C (zexec skX C zT_G_areAllEmpty 3 n) x1 s
set_option maxRecDepth 100000 in
theorem aX_G_findNext (d : Nat) (s : zS) : zcall zMs skX (d + 1) 13 [.inr (.inr 36)] s = bX_G_findNext_0 (zcall zMs skX d) (zexec skX (zcall zMs skX d) zT_G_findNext 1 19999) s := bX_G_findNext_0_e (zcall zMs skX d) (zexec skX (zcall zMs skX d) zT_G_findNext 1 19999) s
set_option maxRecDepth 100000 in
theorem hX_G_findNext_2 (C : Nat → List zV → zS → zR) (n : Nat) (x1 : Int32) (s : zS) : zexec skX C zT_G_findNext 1 (n + 1) 2 [some (.inr (.inr 36)), some (.inl x1), none] [] s = bX_G_findNext_2 C (zexec skX C zT_G_findNext 1 n) x1 s := bX_G_findNext_2_e C (zexec skX C zT_G_findNext 1 n) x1 s
set_option maxRecDepth 100000 in
theorem aX_G_standsBehindAFirst (d : Nat) (x1 : Int32) (s : zS) : zcall zMs skX (d + 1) 14 [.inr (.inr 36), .inl x1] s = bX_G_standsBehindAFirst_0 (zcall zMs skX d) (zexec skX (zcall zMs skX d) zT_G_standsBehindAFirst 3 19999) x1 s := bX_G_standsBehindAFirst_0_e (zcall zMs skX d) (zexec skX (zcall zMs skX d) zT_G_standsBehindAFirst 3 19999) x1 s
set_option maxRecDepth 100000 in
theorem hX_G_standsBehindAFirst_2 (C : Nat → List zV → zS → zR) (n : Nat) (x1 : Int32) (x2 : Int32) (s : zS) : zexec skX C zT_G_standsBehindAFirst 3 (n + 1) 2 [some (.inr (.inr 36)), some (.inl x1), some (.inl x2), none] [] s = bX_G_standsBehindAFirst_2 C (zexec skX C zT_G_standsBehindAFirst 3 n) x1 x2 s := bX_G_standsBehindAFirst_2_e C (zexec skX C zT_G_standsBehindAFirst 3 n) x1 x2 s
set_option maxRecDepth 100000 in
theorem hX_G_standsBehindAFirst_12 (C : Nat → List zV → zS → zR) (n : Nat) (x1 : Int32) (x2 : Int32) (x3 : Int32) (s : zS) : zexec skX C zT_G_standsBehindAFirst 3 (n + 1) 12 [some (.inr (.inr 36)), some (.inl x1), some (.inl x2), some (.inl x3)] [] s = bX_G_standsBehindAFirst_12 C (zexec skX C zT_G_standsBehindAFirst 3 n) x1 x2 x3 s := bX_G_standsBehindAFirst_12_e C (zexec skX C zT_G_standsBehindAFirst 3 n) x1 x2 x3 s
set_option maxRecDepth 100000 in
theorem aX_G_layRows (d : Nat) (s : zS) : zcall zMs skX (d + 1) 11 [.inr (.inr 36), .inr (.inr 2)] s = bX_G_layRows_0 (zcall zMs skX d) (zexec skX (zcall zMs skX d) zT_G_layRows 0 19999) s := bX_G_layRows_0_e (zcall zMs skX d) (zexec skX (zcall zMs skX d) zT_G_layRows 0 19999) s
set_option maxRecDepth 100000 in
theorem hX_G_layRows_10 (C : Nat → List zV → zS → zR) (n : Nat) (x2 : Int32) (s : zS) : zexec skX C zT_G_layRows 0 (n + 1) 10 [some (.inr (.inr 36)), some (.inr (.inr 2)), some (.inl x2), none] [] s = bX_G_layRows_10 C (zexec skX C zT_G_layRows 0 n) x2 s := bX_G_layRows_10_e C (zexec skX C zT_G_layRows 0 n) x2 s
set_option maxRecDepth 100000 in
theorem aX_J_fill2 (d : Nat) (x1 : Int32) (s : zS) : zcall zMs skX (d + 1) 220 [.inr (.inr 40), .inl x1] s = bX_J_fill2_0 (zcall zMs skX d) (zexec skX (zcall zMs skX d) zT_J_fill2 0 19999) x1 s := bX_J_fill2_0_e (zcall zMs skX d) (zexec skX (zcall zMs skX d) zT_J_fill2 0 19999) x1 s
set_option maxRecDepth 100000 in
theorem hX_J_fill2_5 (C : Nat → List zV → zS → zR) (n : Nat) (x1 : Int32) (x2 : Int32) (x3 : Int32) (s : zS) : zexec skX C zT_J_fill2 0 (n + 1) 5 [some (.inr (.inr 40)), some (.inl x1), some (.inl x2), some (.inl x3)] [] s = bX_J_fill2_5 C (zexec skX C zT_J_fill2 0 n) x1 x2 x3 s := bX_J_fill2_5_e C (zexec skX C zT_J_fill2 0 n) x1 x2 x3 s
set_option maxRecDepth 100000 in
theorem aX_J_fill2_41 (d : Nat) (x1 : Int32) (s : zS) : zcall zMs skX (d + 1) 220 [.inr (.inr 41), .inl x1] s = bX_J_fill2_41_0 (zcall zMs skX d) (zexec skX (zcall zMs skX d) zT_J_fill2 0 19999) x1 s := bX_J_fill2_41_0_e (zcall zMs skX d) (zexec skX (zcall zMs skX d) zT_J_fill2 0 19999) x1 s
set_option maxRecDepth 100000 in
theorem hX_J_fill2_41_5 (C : Nat → List zV → zS → zR) (n : Nat) (x1 : Int32) (x2 : Int32) (x3 : Int32) (s : zS) : zexec skX C zT_J_fill2 0 (n + 1) 5 [some (.inr (.inr 41)), some (.inl x1), some (.inl x2), some (.inl x3)] [] s = bX_J_fill2_41_5 C (zexec skX C zT_J_fill2 0 n) x1 x2 x3 s := bX_J_fill2_41_5_e C (zexec skX C zT_J_fill2 0 n) x1 x2 x3 s
set_option maxRecDepth 100000 in
theorem aX_G_takeOut (d : Nat) (x1 : Int32) (s : zS) : zcall zMs skX (d + 1) 15 [.inr (.inr 36), .inl x1] s = bX_G_takeOut_0 (zcall zMs skX d) (zexec skX (zcall zMs skX d) zT_G_takeOut 0 19999) x1 s := bX_G_takeOut_0_e (zcall zMs skX d) (zexec skX (zcall zMs skX d) zT_G_takeOut 0 19999) x1 s
set_option maxRecDepth 100000 in
theorem hX_G_takeOut_2 (C : Nat → List zV → zS → zR) (n : Nat) (x1 : Int32) (x2 : Int32) (s : zS) : zexec skX C zT_G_takeOut 0 (n + 1) 2 [some (.inr (.inr 36)), some (.inl x1), some (.inl x2)] [] s = bX_G_takeOut_2 C (zexec skX C zT_G_takeOut 0 n) x1 x2 s := bX_G_takeOut_2_e C (zexec skX C zT_G_takeOut 0 n) x1 x2 s
set_option maxRecDepth 100000 in
theorem aX_G_tellNone (d : Nat) (s : zS) : zcall zMs skX (d + 1) 6 [.inr (.inr 36)] s = bX_G_tellNone_0 (zcall zMs skX d) (zexec skX (zcall zMs skX d) zT_G_tellNone 0 19999) s := bX_G_tellNone_0_e (zcall zMs skX d) (zexec skX (zcall zMs skX d) zT_G_tellNone 0 19999) s
set_option maxRecDepth 100000 in
theorem aX_W_addObject (d : Nat) (x1 : Int32) (s : zS) : zcall zMs skX (d + 1) 62 [.inr (.inr 2), .inl x1, .inr (.inr 36)] s = bX_W_addObject_0 (zcall zMs skX d) (zexec skX (zcall zMs skX d) zT_W_addObject 1 19999) x1 s := bX_W_addObject_0_e (zcall zMs skX d) (zexec skX (zcall zMs skX d) zT_W_addObject 1 19999) x1 s
set_option maxRecDepth 100000 in
theorem hX_W_addObject_55 (C : Nat → List zV → zS → zR) (n : Nat) (x3 : Int32) (x4 : Int32) (s : zS) : zexec skX C zT_W_addObject 1 (n + 1) 55 [some (.inr (.inr 2)), none, none, some (.inl x3), some (.inl x4)] [] s = bX_W_addObject_55 C (zexec skX C zT_W_addObject 1 n) x3 x4 s := bX_W_addObject_55_e C (zexec skX C zT_W_addObject 1 n) x3 x4 s
set_option maxRecDepth 100000 in
theorem aX_W_drop (d : Nat) (x1 : Int32) (x2 : Int32) (s : zS) : zcall zMs skX (d + 1) 71 [.inr (.inr 2), .inl x1, .inl x2] s = bX_W_drop_0 (zcall zMs skX d) (zexec skX (zcall zMs skX d) zT_W_drop 0 19999) x1 x2 s := bX_W_drop_0_e (zcall zMs skX d) (zexec skX (zcall zMs skX d) zT_W_drop 0 19999) x1 x2 s
set_option maxRecDepth 100000 in
theorem aX_W_isFull (d : Nat) (s : zS) : zcall zMs skX (d + 1) 61 [.inr (.inr 2)] s = bX_W_isFull_0 (zcall zMs skX d) (zexec skX (zcall zMs skX d) zT_W_isFull 3 19999) s := bX_W_isFull_0_e (zcall zMs skX d) (zexec skX (zcall zMs skX d) zT_W_isFull 3 19999) s
set_option maxRecDepth 100000 in
theorem aX_X_fault (d : Nat) (s : zS) : zcall zMs skX (d + 1) 90 [.inr (.inr 0)] s = bX_X_fault_0 (zcall zMs skX d) (zexec skX (zcall zMs skX d) zT_X_fault 1 19999) s := bX_X_fault_0_e (zcall zMs skX d) (zexec skX (zcall zMs skX d) zT_X_fault 1 19999) s
set_option maxRecDepth 100000 in
theorem aX_X_make (d : Nat) (x1 : Int32) (x2 : Int32) (x3 : Int32) (x4 : Int32) (x5 : Int32) (s : zS) : zcall zMs skX (d + 1) 91 [.inr (.inr 0), .inl x1, .inl x2, .inl x3, .inl x4, .inl x5] s = bX_X_make_0 (zcall zMs skX d) (zexec skX (zcall zMs skX d) zT_X_make 1 19999) x1 x2 x3 x4 x5 s := bX_X_make_0_e (zcall zMs skX d) (zexec skX (zcall zMs skX d) zT_X_make 1 19999) x1 x2 x3 x4 x5 s
set_option maxRecDepth 100000 in
theorem aX_X_whyNoParents (d : Nat) (x1 : Int32) (x2 : Int32) (x3 : Int32) (x4 : Int32) (s : zS) : zcall zMs skX (d + 1) 119 [.inr (.inr 0), .inl x1, .inl x2, .inl x3, .inl x4] s = bX_X_whyNoParents_0 (zcall zMs skX d) (zexec skX (zcall zMs skX d) zT_X_whyNoParents 1 19999) x1 x2 x3 x4 s := bX_X_whyNoParents_0_e (zcall zMs skX d) (zexec skX (zcall zMs skX d) zT_X_whyNoParents 1 19999) x1 x2 x3 x4 s
set_option maxRecDepth 100000 in
theorem hX_X_whyNoParents_16 (C : Nat → List zV → zS → zR) (n : Nat) (x1 : Int32) (x5 : Int32) (s : zS) : zexec skX C zT_X_whyNoParents 1 (n + 1) 16 [some (.inr (.inr 0)), some (.inl x1), none, none, none, some (.inl x5)] [] s = bX_X_whyNoParents_16 C (zexec skX C zT_X_whyNoParents 1 n) x1 x5 s := bX_X_whyNoParents_16_e C (zexec skX C zT_X_whyNoParents 1 n) x1 x5 s
set_option maxRecDepth 100000 in
theorem hX_X_whyNoParents_34 (C : Nat → List zV → zS → zR) (n : Nat) (x1 : Int32) (x5 : Int32) (s : zS) : zexec skX C zT_X_whyNoParents 1 (n + 1) 34 [some (.inr (.inr 0)), some (.inl x1), none, none, none, some (.inl x5)] [] s = bX_X_whyNoParents_34 C (zexec skX C zT_X_whyNoParents 1 n) x1 x5 s := bX_X_whyNoParents_34_e C (zexec skX C zT_X_whyNoParents 1 n) x1 x5 s
set_option maxRecDepth 100000 in
theorem aX_G_standsAhead (d : Nat) (x1 : Int32) (s : zS) : zcall zMs skX (d + 1) 9 [.inr (.inr 36), .inl x1] s = bX_G_standsAhead_0 (zcall zMs skX d) (zexec skX (zcall zMs skX d) zT_G_standsAhead 3 19999) x1 s := bX_G_standsAhead_0_e (zcall zMs skX d) (zexec skX (zcall zMs skX d) zT_G_standsAhead 3 19999) x1 s
set_option maxRecDepth 100000 in
theorem hX_G_standsAhead_2 (C : Nat → List zV → zS → zR) (n : Nat) (x1 : Int32) (x2 : Int32) (s : zS) : zexec skX C zT_G_standsAhead 3 (n + 1) 2 [some (.inr (.inr 36)), some (.inl x1), some (.inl x2)] [] s = bX_G_standsAhead_2 C (zexec skX C zT_G_standsAhead 3 n) x1 x2 s := bX_G_standsAhead_2_e C (zexec skX C zT_G_standsAhead 3 n) x1 x2 s
set_option maxRecDepth 100000 in
theorem aX_G_tellFirst (d : Nat) (x1 : Int32) (x2 : Int32) (x3 : Int32) (x4 : Int32) (s : zS) : zcall zMs skX (d + 1) 5 [.inr (.inr 36), .inl x1, .inl x2, .inl x3, .inl x4] s = bX_G_tellFirst_0 (zcall zMs skX d) (zexec skX (zcall zMs skX d) zT_G_tellFirst 0 19999) x1 x2 x3 x4 s := bX_G_tellFirst_0_e (zcall zMs skX d) (zexec skX (zcall zMs skX d) zT_G_tellFirst 0 19999) x1 x2 x3 x4 s
set_option maxRecDepth 100000 in
theorem aX_X_wouldBe (d : Nat) (x1 : Int32) (x2 : Int32) (x3 : Int32) (x4 : Int32) (x5 : Int32) (s : zS) : zcall zMs skX (d + 1) 92 [.inr (.inr 0), .inl x1, .inl x2, .inl x3, .inl x4, .inl x5] s = bX_X_wouldBe_0 (zcall zMs skX d) (zexec skX (zcall zMs skX d) zT_X_wouldBe 1 19999) x1 x2 x3 x4 x5 s := bX_X_wouldBe_0_e (zcall zMs skX d) (zexec skX (zcall zMs skX d) zT_X_wouldBe 1 19999) x1 x2 x3 x4 x5 s
set_option maxRecDepth 100000 in
theorem aX_X_refuseByTen (d : Nat) (x1 : Int32) (s : zS) : zcall zMs skX (d + 1) 118 [.inr (.inr 0), .inl x1] s = bX_X_refuseByTen_0 (zcall zMs skX d) (zexec skX (zcall zMs skX d) zT_X_refuseByTen 1 19999) x1 s := bX_X_refuseByTen_0_e (zcall zMs skX d) (zexec skX (zcall zMs skX d) zT_X_refuseByTen 1 19999) x1 s
set_option maxRecDepth 100000 in
theorem aX_X_value (d : Nat) (x1 : Int32) (x2 : Int32) (x3 : Int32) (s : zS) : zcall zMs skX (d + 1) 93 [.inr (.inr 0), .inl x1, .inl x2, .inl x3] s = bX_X_value_0 (zcall zMs skX d) (zexec skX (zcall zMs skX d) zT_X_value 1 19999) x1 x2 x3 s := bX_X_value_0_e (zcall zMs skX d) (zexec skX (zcall zMs skX d) zT_X_value 1 19999) x1 x2 x3 s
set_option maxRecDepth 100000 in
theorem aX_X_isSlot (d : Nat) (x0 : Int32) (s : zS) : zcall zMs skX (d + 1) 122 [.inl x0] s = bX_X_isSlot_0 (zcall zMs skX d) (zexec skX (zcall zMs skX d) zT_X_isSlot 3 19999) x0 s := bX_X_isSlot_0_e (zcall zMs skX d) (zexec skX (zcall zMs skX d) zT_X_isSlot 3 19999) x0 s
set_option maxRecDepth 100000 in
theorem aX_X_method (d : Nat) (x1 : Int32) (x2 : Int32) (x3 : Int32) (x4 : Int32) (s : zS) : zcall zMs skX (d + 1) 94 [.inr (.inr 0), .inl x1, .inl x2, .inl x3, .inl x4] s = bX_X_method_0 (zcall zMs skX d) (zexec skX (zcall zMs skX d) zT_X_method 1 19999) x1 x2 x3 x4 s := bX_X_method_0_e (zcall zMs skX d) (zexec skX (zcall zMs skX d) zT_X_method 1 19999) x1 x2 x3 x4 s
set_option maxRecDepth 100000 in
theorem aX_X_isFunction (d : Nat) (x0 : Int32) (x1 : Int32) (s : zS) : zcall zMs skX (d + 1) 125 [.inl x0, .inl x1] s = bX_X_isFunction_0 (zcall zMs skX d) (zexec skX (zcall zMs skX d) zT_X_isFunction 3 19999) x0 x1 s := bX_X_isFunction_0_e (zcall zMs skX d) (zexec skX (zcall zMs skX d) zT_X_isFunction 3 19999) x0 x1 s
set_option maxRecDepth 100000 in
theorem aX_X_remove (d : Nat) (x1 : Int32) (x2 : Int32) (s : zS) : zcall zMs skX (d + 1) 95 [.inr (.inr 0), .inl x1, .inl x2] s = bX_X_remove_0 (zcall zMs skX d) (zexec skX (zcall zMs skX d) zT_X_remove 1 19999) x1 x2 s := bX_X_remove_0_e (zcall zMs skX d) (zexec skX (zcall zMs skX d) zT_X_remove 1 19999) x1 x2 s
set_option maxRecDepth 100000 in
theorem aX_X_objectOf (d : Nat) (x1 : Int32) (x2 : Int32) (s : zS) : zcall zMs skX (d + 1) 96 [.inr (.inr 0), .inl x1, .inl x2] s = bX_X_objectOf_0 (zcall zMs skX d) (zexec skX (zcall zMs skX d) zT_X_objectOf 1 19999) x1 x2 s := bX_X_objectOf_0_e (zcall zMs skX d) (zexec skX (zcall zMs skX d) zT_X_objectOf 1 19999) x1 x2 s
set_option maxRecDepth 100000 in
theorem aX_W_family (d : Nat) (x1 : Int32) (s : zS) : zcall zMs skX (d + 1) 77 [.inr (.inr 2), .inl x1] s = bX_W_family_0 (zcall zMs skX d) (zexec skX (zcall zMs skX d) zT_W_family 1 19999) x1 s := bX_W_family_0_e (zcall zMs skX d) (zexec skX (zcall zMs skX d) zT_W_family 1 19999) x1 s
set_option maxRecDepth 100000 in
theorem hX_W_family_4 (C : Nat → List zV → zS → zR) (n : Nat) (x1 : Int32) (x2 : Int32) (x3 : Int32) (s : zS) : zexec skX C zT_W_family 1 (n + 1) 4 [some (.inr (.inr 2)), some (.inl x1), some (.inl x2), some (.inl x3)] [] s = bX_W_family_4 C (zexec skX C zT_W_family 1 n) x1 x2 x3 s := bX_W_family_4_e C (zexec skX C zT_W_family 1 n) x1 x2 x3 s
set_option maxRecDepth 100000 in
theorem aX_W_distanceTo (d : Nat) (x1 : Int32) (x2 : Int32) (s : zS) : zcall zMs skX (d + 1) 67 [.inr (.inr 2), .inl x1, .inl x2] s = bX_W_distanceTo_0 (zcall zMs skX d) (zexec skX (zcall zMs skX d) zT_W_distanceTo 1 19999) x1 x2 s := bX_W_distanceTo_0_e (zcall zMs skX d) (zexec skX (zcall zMs skX d) zT_W_distanceTo 1 19999) x1 x2 s
set_option maxRecDepth 100000 in
theorem hX_W_distanceTo_2 (C : Nat → List zV → zS → zR) (n : Nat) (x1 : Int32) (x2 : Int32) (x3 : Int32) (s : zS) : zexec skX C zT_W_distanceTo 1 (n + 1) 2 [some (.inr (.inr 2)), some (.inl x1), some (.inl x2), some (.inl x3)] [] s = bX_W_distanceTo_2 C (zexec skX C zT_W_distanceTo 1 n) x1 x2 x3 s := bX_W_distanceTo_2_e C (zexec skX C zT_W_distanceTo 1 n) x1 x2 x3 s
set_option maxRecDepth 100000 in
theorem aX_W_orderAt (d : Nat) (x1 : Int32) (x2 : Int32) (s : zS) : zcall zMs skX (d + 1) 64 [.inr (.inr 2), .inl x1, .inl x2] s = bX_W_orderAt_0 (zcall zMs skX d) (zexec skX (zcall zMs skX d) zT_W_orderAt 1 19999) x1 x2 s := bX_W_orderAt_0_e (zcall zMs skX d) (zexec skX (zcall zMs skX d) zT_W_orderAt 1 19999) x1 x2 s
set_option maxRecDepth 100000 in
theorem aX_W_foundSlots (d : Nat) (x1 : Int32) (s : zS) : zcall zMs skX (d + 1) 75 [.inr (.inr 2), .inl x1] s = bX_W_foundSlots_0 (zcall zMs skX d) (zexec skX (zcall zMs skX d) zT_W_foundSlots 1 19999) x1 s := bX_W_foundSlots_0_e (zcall zMs skX d) (zexec skX (zcall zMs skX d) zT_W_foundSlots 1 19999) x1 s
set_option maxRecDepth 100000 in
theorem hX_W_foundSlots_4 (C : Nat → List zV → zS → zR) (n : Nat) (x1 : Int32) (x2 : Int32) (x3 : Int32) (s : zS) : zexec skX C zT_W_foundSlots 1 (n + 1) 4 [some (.inr (.inr 2)), some (.inl x1), some (.inl x2), some (.inl x3)] [] s = bX_W_foundSlots_4 C (zexec skX C zT_W_foundSlots 1 n) x1 x2 x3 s := bX_W_foundSlots_4_e C (zexec skX C zT_W_foundSlots 1 n) x1 x2 x3 s
set_option maxRecDepth 100000 in
theorem aX_W_parentAt (d : Nat) (x1 : Int32) (x2 : Int32) (s : zS) : zcall zMs skX (d + 1) 63 [.inr (.inr 2), .inl x1, .inl x2] s = bX_W_parentAt_0 (zcall zMs skX d) (zexec skX (zcall zMs skX d) zT_W_parentAt 1 19999) x1 x2 s := bX_W_parentAt_0_e (zcall zMs skX d) (zexec skX (zcall zMs skX d) zT_W_parentAt 1 19999) x1 x2 s
set_option maxRecDepth 100000 in
theorem aX_X_order (d : Nat) (x1 : Int32) (x2 : Int32) (s : zS) : zcall zMs skX (d + 1) 97 [.inr (.inr 0), .inl x1, .inl x2] s = bX_X_order_0 (zcall zMs skX d) (zexec skX (zcall zMs skX d) zT_X_order 1 19999) x1 x2 s := bX_X_order_0_e (zcall zMs skX d) (zexec skX (zcall zMs skX d) zT_X_order 1 19999) x1 x2 s
set_option maxRecDepth 100000 in
theorem aX_X_distance (d : Nat) (x1 : Int32) (x2 : Int32) (s : zS) : zcall zMs skX (d + 1) 98 [.inr (.inr 0), .inl x1, .inl x2] s = bX_X_distance_0 (zcall zMs skX d) (zexec skX (zcall zMs skX d) zT_X_distance 1 19999) x1 x2 s := bX_X_distance_0_e (zcall zMs skX d) (zexec skX (zcall zMs skX d) zT_X_distance 1 19999) x1 x2 s
set_option maxRecDepth 100000 in
theorem aX_X_where (d : Nat) (x1 : Int32) (x2 : Int32) (s : zS) : zcall zMs skX (d + 1) 99 [.inr (.inr 0), .inl x1, .inl x2] s = bX_X_where_0 (zcall zMs skX d) (zexec skX (zcall zMs skX d) zT_X_where 1 19999) x1 x2 s := bX_X_where_0_e (zcall zMs skX d) (zexec skX (zcall zMs skX d) zT_X_where 1 19999) x1 x2 s
set_option maxRecDepth 100000 in
theorem aX_W_foundIn (d : Nat) (x1 : Int32) (x2 : Int32) (s : zS) : zcall zMs skX (d + 1) 73 [.inr (.inr 2), .inl x1, .inl x2] s = bX_W_foundIn_0 (zcall zMs skX d) (zexec skX (zcall zMs skX d) zT_W_foundIn 1 19999) x1 x2 s := bX_W_foundIn_0_e (zcall zMs skX d) (zexec skX (zcall zMs skX d) zT_W_foundIn 1 19999) x1 x2 s
set_option maxRecDepth 100000 in
theorem aX_W_placeFrom (d : Nat) (x1 : Int32) (x2 : Int32) (x3 : Int32) (s : zS) : zcall zMs skX (d + 1) 72 [.inr (.inr 2), .inl x1, .inl x2, .inl x3] s = bX_W_placeFrom_0 (zcall zMs skX d) (zexec skX (zcall zMs skX d) zT_W_placeFrom 1 19999) x1 x2 x3 s := bX_W_placeFrom_0_e (zcall zMs skX d) (zexec skX (zcall zMs skX d) zT_W_placeFrom 1 19999) x1 x2 x3 s
set_option maxRecDepth 100000 in
theorem hX_W_placeFrom_2 (C : Nat → List zV → zS → zR) (n : Nat) (x1 : Int32) (x2 : Int32) (x4 : Int32) (s : zS) : zexec skX C zT_W_placeFrom 1 (n + 1) 2 [some (.inr (.inr 2)), some (.inl x1), some (.inl x2), none, some (.inl x4)] [] s = bX_W_placeFrom_2 C (zexec skX C zT_W_placeFrom 1 n) x1 x2 x4 s := bX_W_placeFrom_2_e C (zexec skX C zT_W_placeFrom 1 n) x1 x2 x4 s
set_option maxRecDepth 100000 in
theorem aX_X_hidden (d : Nat) (x1 : Int32) (x2 : Int32) (s : zS) : zcall zMs skX (d + 1) 100 [.inr (.inr 0), .inl x1, .inl x2] s = bX_X_hidden_0 (zcall zMs skX d) (zexec skX (zcall zMs skX d) zT_X_hidden 1 19999) x1 x2 s := bX_X_hidden_0_e (zcall zMs skX d) (zexec skX (zcall zMs skX d) zT_X_hidden 1 19999) x1 x2 s
set_option maxRecDepth 100000 in
theorem aX_W_hiddenSlots (d : Nat) (x1 : Int32) (x2 : Int32) (s : zS) : zcall zMs skX (d + 1) 76 [.inr (.inr 2), .inl x1, .inl x2] s = bX_W_hiddenSlots_0 (zcall zMs skX d) (zexec skX (zcall zMs skX d) zT_W_hiddenSlots 1 19999) x1 x2 s := bX_W_hiddenSlots_0_e (zcall zMs skX d) (zexec skX (zcall zMs skX d) zT_W_hiddenSlots 1 19999) x1 x2 s
set_option maxRecDepth 100000 in
theorem hX_W_hiddenSlots_4 (C : Nat → List zV → zS → zR) (n : Nat) (x1 : Int32) (x2 : Int32) (x3 : Int32) (x4 : Int32) (s : zS) : zexec skX C zT_W_hiddenSlots 1 (n + 1) 4 [some (.inr (.inr 2)), some (.inl x1), some (.inl x2), some (.inl x3), some (.inl x4)] [] s = bX_W_hiddenSlots_4 C (zexec skX C zT_W_hiddenSlots 1 n) x1 x2 x3 x4 s := bX_W_hiddenSlots_4_e C (zexec skX C zT_W_hiddenSlots 1 n) x1 x2 x3 x4 s
set_option maxRecDepth 100000 in
theorem aX_X_slotOf (d : Nat) (x1 : Int32) (x2 : Int32) (x3 : Int32) (s : zS) : zcall zMs skX (d + 1) 101 [.inr (.inr 0), .inl x1, .inl x2, .inl x3] s = bX_X_slotOf_0 (zcall zMs skX d) (zexec skX (zcall zMs skX d) zT_X_slotOf 1 19999) x1 x2 x3 s := bX_X_slotOf_0_e (zcall zMs skX d) (zexec skX (zcall zMs skX d) zT_X_slotOf 1 19999) x1 x2 x3 s
set_option maxRecDepth 100000 in
theorem aX_X_send (d : Nat) (x1 : Int32) (x2 : Int32) (x3 : Int32) (s : zS) : zcall zMs skX (d + 1) 102 [.inr (.inr 0), .inl x1, .inl x2, .inl x3] s = bX_X_send_0 (zcall zMs skX d) (zexec skX (zcall zMs skX d) zT_X_send 1 19999) x1 x2 x3 s := bX_X_send_0_e (zcall zMs skX d) (zexec skX (zcall zMs skX d) zT_X_send 1 19999) x1 x2 x3 s
set_option maxRecDepth 100000 in
theorem aX_U_beginAct (d : Nat) (s : zS) : zcall zMs skX (d + 1) 28 [.inr (.inr 1)] s = bX_U_beginAct_0 (zcall zMs skX d) (zexec skX (zcall zMs skX d) zT_U_beginAct 0 19999) s := bX_U_beginAct_0_e (zcall zMs skX d) (zexec skX (zcall zMs skX d) zT_U_beginAct 0 19999) s
set_option maxRecDepth 100000 in
theorem aX_U_sendSlot (d : Nat) (x1 : Int32) (x2 : Int32) (x3 : Int32) (s : zS) : zcall zMs skX (d + 1) 29 [.inr (.inr 1), .inl x1, .inl x2, .inl x3] s = bX_U_sendSlot_0 (zcall zMs skX d) (zexec skX (zcall zMs skX d) zT_U_sendSlot 1 19999) x1 x2 x3 s := bX_U_sendSlot_0_e (zcall zMs skX d) (zexec skX (zcall zMs skX d) zT_U_sendSlot 1 19999) x1 x2 x3 s
set_option maxRecDepth 100000 in
theorem aX_U_carryOut (d : Nat) (x1 : Int32) (s : zS) : zcall zMs skX (d + 1) 33 [.inr (.inr 1), .inl x1] s = bX_U_carryOut_0 (zcall zMs skX d) (zexec skX (zcall zMs skX d) zT_U_carryOut 1 19999) x1 s := bX_U_carryOut_0_e (zcall zMs skX d) (zexec skX (zcall zMs skX d) zT_U_carryOut 1 19999) x1 s
set_option maxRecDepth 100000 in
theorem hX_U_carryOut_12 (C : Nat → List zV → zS → zR) (n : Nat) (x2 : Int32) (x3 : Int32) (s : zS) : zexec skX C zT_U_carryOut 1 (n + 1) 12 [some (.inr (.inr 1)), none, some (.inl x2), some (.inl x3)] [] s = bX_U_carryOut_12 C (zexec skX C zT_U_carryOut 1 n) x2 x3 s := bX_U_carryOut_12_e C (zexec skX C zT_U_carryOut 1 n) x2 x3 s
set_option maxRecDepth 100000 in
theorem aX_U_save (d : Nat) (s : zS) : zcall zMs skX (d + 1) 32 [.inr (.inr 1)] s = bX_U_save_0 (zcall zMs skX d) (zexec skX (zcall zMs skX d) zT_U_save 0 19999) s := bX_U_save_0_e (zcall zMs skX d) (zexec skX (zcall zMs skX d) zT_U_save 0 19999) s
set_option maxRecDepth 100000 in
theorem aX_U_takeStep (d : Nat) (s : zS) : zcall zMs skX (d + 1) 34 [.inr (.inr 1)] s = bX_U_takeStep_0 (zcall zMs skX d) (zexec skX (zcall zMs skX d) zT_U_takeStep 3 19999) s := bX_U_takeStep_0_e (zcall zMs skX d) (zexec skX (zcall zMs skX d) zT_U_takeStep 3 19999) s
set_option maxRecDepth 100000 in
theorem aX_U_comeToSlot (d : Nat) (s : zS) : zcall zMs skX (d + 1) 37 [.inr (.inr 1)] s = bX_U_comeToSlot_0 (zcall zMs skX d) (zexec skX (zcall zMs skX d) zT_U_comeToSlot 0 19999) s := bX_U_comeToSlot_0_e (zcall zMs skX d) (zexec skX (zcall zMs skX d) zT_U_comeToSlot 0 19999) s
set_option maxRecDepth 100000 in
theorem aX_U_give (d : Nat) (x1 : Int32) (s : zS) : zcall zMs skX (d + 1) 36 [.inr (.inr 1), .inl x1] s = bX_U_give_0 (zcall zMs skX d) (zexec skX (zcall zMs skX d) zT_U_give 0 19999) x1 s := bX_U_give_0_e (zcall zMs skX d) (zexec skX (zcall zMs skX d) zT_U_give 0 19999) x1 s
set_option maxRecDepth 100000 in
theorem aX_U_startMethod (d : Nat) (x1 : Int32) (x2 : Int32) (s : zS) : zcall zMs skX (d + 1) 40 [.inr (.inr 1), .inl x1, .inl x2] s = bX_U_startMethod_0 (zcall zMs skX d) (zexec skX (zcall zMs skX d) zT_U_startMethod 0 19999) x1 x2 s := bX_U_startMethod_0_e (zcall zMs skX d) (zexec skX (zcall zMs skX d) zT_U_startMethod 0 19999) x1 x2 s
set_option maxRecDepth 100000 in
theorem aX_U_comeToWay (d : Nat) (s : zS) : zcall zMs skX (d + 1) 38 [.inr (.inr 1)] s = bX_U_comeToWay_0 (zcall zMs skX d) (zexec skX (zcall zMs skX d) zT_U_comeToWay 0 19999) s := bX_U_comeToWay_0_e (zcall zMs skX d) (zexec skX (zcall zMs skX d) zT_U_comeToWay 0 19999) s
set_option maxRecDepth 100000 in
theorem aX_A_wayAt (d : Nat) (x1 : Int32) (x2 : Int32) (s : zS) : zcall zMs skX (d + 1) 3 [.inr (.inr 12), .inl x1, .inl x2] s = bX_A_wayAt_0 (zcall zMs skX d) (zexec skX (zcall zMs skX d) zT_A_wayAt 1 19999) x1 x2 s := bX_A_wayAt_0_e (zcall zMs skX d) (zexec skX (zcall zMs skX d) zT_A_wayAt 1 19999) x1 x2 s
set_option maxRecDepth 100000 in
theorem aX_U_goOnInCore (d : Nat) (s : zS) : zcall zMs skX (d + 1) 45 [.inr (.inr 1)] s = bX_U_goOnInCore_0 (zcall zMs skX d) (zexec skX (zcall zMs skX d) zT_U_goOnInCore 0 19999) s := bX_U_goOnInCore_0_e (zcall zMs skX d) (zexec skX (zcall zMs skX d) zT_U_goOnInCore 0 19999) s
set_option maxRecDepth 100000 in
theorem hX_U_goOnInCore_60 (C : Nat → List zV → zS → zR) (n : Nat) (x1 : Int32) (x2 : Int32) (s : zS) : zexec skX C zT_U_goOnInCore 0 (n + 1) 60 [some (.inr (.inr 1)), some (.inl x1), some (.inl x2)] [] s = bX_U_goOnInCore_60 C (zexec skX C zT_U_goOnInCore 0 n) x1 x2 s := bX_U_goOnInCore_60_e C (zexec skX C zT_U_goOnInCore 0 n) x1 x2 s
set_option maxRecDepth 100000 in
theorem hX_U_goOnInCore_67 (C : Nat → List zV → zS → zR) (n : Nat) (x1 : Int32) (x2 : Int32) (s : zS) : zexec skX C zT_U_goOnInCore 0 (n + 1) 67 [some (.inr (.inr 1)), some (.inl x1), some (.inl x2)] [] s = bX_U_goOnInCore_67 C (zexec skX C zT_U_goOnInCore 0 n) x1 x2 s := bX_U_goOnInCore_67_e C (zexec skX C zT_U_goOnInCore 0 n) x1 x2 s
set_option maxRecDepth 100000 in
theorem hX_U_goOnInCore_88 (C : Nat → List zV → zS → zR) (n : Nat) (x1 : Int32) (s : zS) : zexec skX C zT_U_goOnInCore 0 (n + 1) 88 [some (.inr (.inr 1)), some (.inl x1), none] [] s = bX_U_goOnInCore_88 C (zexec skX C zT_U_goOnInCore 0 n) x1 s := bX_U_goOnInCore_88_e C (zexec skX C zT_U_goOnInCore 0 n) x1 s
set_option maxRecDepth 100000 in
theorem aX_U_comeNextTo (d : Nat) (x1 : Int32) (x2 : Int32) (x3 : Int32) (x4 : Int32) (s : zS) : zcall zMs skX (d + 1) 35 [.inr (.inr 1), .inl x1, .inl x2, .inl x3, .inl x4] s = bX_U_comeNextTo_0 (zcall zMs skX d) (zexec skX (zcall zMs skX d) zT_U_comeNextTo 0 19999) x1 x2 x3 x4 s := bX_U_comeNextTo_0_e (zcall zMs skX d) (zexec skX (zcall zMs skX d) zT_U_comeNextTo 0 19999) x1 x2 x3 x4 s
set_option maxRecDepth 100000 in
theorem aX_U_leave (d : Nat) (x1 : Int32) (x2 : Int32) (x3 : Int32) (x4 : Int32) (s : zS) : zcall zMs skX (d + 1) 43 [.inr (.inr 1), .inl x1, .inl x2, .inl x3, .inl x4] s = bX_U_leave_0 (zcall zMs skX d) (zexec skX (zcall zMs skX d) zT_U_leave 0 19999) x1 x2 x3 x4 s := bX_U_leave_0_e (zcall zMs skX d) (zexec skX (zcall zMs skX d) zT_U_leave 0 19999) x1 x2 x3 x4 s
set_option maxRecDepth 100000 in
theorem aX_U_startWay (d : Nat) (x1 : Int32) (s : zS) : zcall zMs skX (d + 1) 39 [.inr (.inr 1), .inl x1] s = bX_U_startWay_0 (zcall zMs skX d) (zexec skX (zcall zMs skX d) zT_U_startWay 0 19999) x1 s := bX_U_startWay_0_e (zcall zMs skX d) (zexec skX (zcall zMs skX d) zT_U_startWay 0 19999) x1 s
set_option maxRecDepth 100000 in
theorem hX_U_startWay_14 (C : Nat → List zV → zS → zR) (n : Nat) (x1 : Int32) (s : zS) : zexec skX C zT_U_startWay 0 (n + 1) 14 [some (.inr (.inr 1)), some (.inl x1)] [] s = bX_U_startWay_14 C (zexec skX C zT_U_startWay 0 n) x1 s := bX_U_startWay_14_e C (zexec skX C zT_U_startWay 0 n) x1 s
set_option maxRecDepth 100000 in
theorem aX_W_wayPart (d : Nat) (x1 : Int32) (x2 : Int32) (s : zS) : zcall zMs skX (d + 1) 65 [.inr (.inr 2), .inl x1, .inl x2] s = bX_W_wayPart_0 (zcall zMs skX d) (zexec skX (zcall zMs skX d) zT_W_wayPart 1 19999) x1 x2 s := bX_W_wayPart_0_e (zcall zMs skX d) (zexec skX (zcall zMs skX d) zT_W_wayPart 1 19999) x1 x2 s
set_option maxRecDepth 100000 in
theorem aX_U_failFrame (d : Nat) (s : zS) : zcall zMs skX (d + 1) 46 [.inr (.inr 1)] s = bX_U_failFrame_0 (zcall zMs skX d) (zexec skX (zcall zMs skX d) zT_U_failFrame 0 19999) s := bX_U_failFrame_0_e (zcall zMs skX d) (zexec skX (zcall zMs skX d) zT_U_failFrame 0 19999) s
set_option maxRecDepth 100000 in
theorem aX_U_giveToFrame (d : Nat) (s : zS) : zcall zMs skX (d + 1) 44 [.inr (.inr 1)] s = bX_U_giveToFrame_0 (zcall zMs skX d) (zexec skX (zcall zMs skX d) zT_U_giveToFrame 0 19999) s := bX_U_giveToFrame_0_e (zcall zMs skX d) (zexec skX (zcall zMs skX d) zT_U_giveToFrame 0 19999) s
set_option maxRecDepth 100000 in
theorem aX_U_run (d : Nat) (s : zS) : zcall zMs skX (d + 1) 41 [.inr (.inr 1)] s = bX_U_run_0 (zcall zMs skX d) (zexec skX (zcall zMs skX d) zT_U_run 0 19999) s := bX_U_run_0_e (zcall zMs skX d) (zexec skX (zcall zMs skX d) zT_U_run 0 19999) s
set_option maxRecDepth 100000 in
theorem aX_J_floorMod (d : Nat) (x0 : Int32) (x1 : Int32) (s : zS) : zcall zMs skX (d + 1) 216 [.inl x0, .inl x1] s = bX_J_floorMod_0 (zcall zMs skX d) (zexec skX (zcall zMs skX d) zT_J_floorMod 1 19999) x0 x1 s := bX_J_floorMod_0_e (zcall zMs skX d) (zexec skX (zcall zMs skX d) zT_J_floorMod 1 19999) x0 x1 s
set_option maxRecDepth 100000 in
theorem aX_U_setOwn (d : Nat) (x1 : Int32) (s : zS) : zcall zMs skX (d + 1) 42 [.inr (.inr 1), .inl x1] s = bX_U_setOwn_0 (zcall zMs skX d) (zexec skX (zcall zMs skX d) zT_U_setOwn 0 19999) x1 s := bX_U_setOwn_0_e (zcall zMs skX d) (zexec skX (zcall zMs skX d) zT_U_setOwn 0 19999) x1 s
set_option maxRecDepth 100000 in
theorem aX_U_undo (d : Nat) (s : zS) : zcall zMs skX (d + 1) 31 [.inr (.inr 1)] s = bX_U_undo_0 (zcall zMs skX d) (zexec skX (zcall zMs skX d) zT_U_undo 0 19999) s := bX_U_undo_0_e (zcall zMs skX d) (zexec skX (zcall zMs skX d) zT_U_undo 0 19999) s
set_option maxRecDepth 100000 in
theorem aX_X_given (d : Nat) (s : zS) : zcall zMs skX (d + 1) 103 [.inr (.inr 0)] s = bX_X_given_0 (zcall zMs skX d) (zexec skX (zcall zMs skX d) zT_X_given 1 19999) s := bX_X_given_0_e (zcall zMs skX d) (zexec skX (zcall zMs skX d) zT_X_given 1 19999) s
set_option maxRecDepth 100000 in
theorem aX_X_trial (d : Nat) (x1 : Int32) (x2 : Int32) (x3 : Int32) (x4 : Int32) (s : zS) : zcall zMs skX (d + 1) 104 [.inr (.inr 0), .inl x1, .inl x2, .inl x3, .inl x4] s = bX_X_trial_0 (zcall zMs skX d) (zexec skX (zcall zMs skX d) zT_X_trial 1 19999) x1 x2 x3 x4 s := bX_X_trial_0_e (zcall zMs skX d) (zexec skX (zcall zMs skX d) zT_X_trial 1 19999) x1 x2 x3 x4 s
set_option maxRecDepth 100000 in
theorem aX_X_way (d : Nat) (x1 : Int32) (x2 : Int32) (x3 : Int32) (x4 : Int32) (x5 : Int32) (x6 : Int32) (s : zS) : zcall zMs skX (d + 1) 105 [.inr (.inr 0), .inl x1, .inl x2, .inl x3, .inl x4, .inl x5, .inl x6] s = bX_X_way_0 (zcall zMs skX d) (zexec skX (zcall zMs skX d) zT_X_way 1 19999) x1 x2 x3 x4 x5 x6 s := bX_X_way_0_e (zcall zMs skX d) (zexec skX (zcall zMs skX d) zT_X_way 1 19999) x1 x2 x3 x4 x5 x6 s
set_option maxRecDepth 100000 in
theorem aX_W_addWay (d : Nat) (x1 : Int32) (x2 : Int32) (x3 : Int32) (x4 : Int32) (x5 : Int32) (x6 : Int32) (s : zS) : zcall zMs skX (d + 1) 222 [.inr (.inr 2), .inl x1, .inl x2, .inl x3, .inl x4, .inl x5, .inl x6] s = bX_W_addWay_0 (zcall zMs skX d) (zexec skX (zcall zMs skX d) zT_W_addWay 1 19999) x1 x2 x3 x4 x5 x6 s := bX_W_addWay_0_e (zcall zMs skX d) (zexec skX (zcall zMs skX d) zT_W_addWay 1 19999) x1 x2 x3 x4 x5 x6 s
set_option maxRecDepth 100000 in
theorem aX_W_isFullOfWays (d : Nat) (s : zS) : zcall zMs skX (d + 1) 221 [.inr (.inr 2)] s = bX_W_isFullOfWays_0 (zcall zMs skX d) (zexec skX (zcall zMs skX d) zT_W_isFullOfWays 3 19999) s := bX_W_isFullOfWays_0_e (zcall zMs skX d) (zexec skX (zcall zMs skX d) zT_W_isFullOfWays 3 19999) s
set_option maxRecDepth 100000 in
theorem aX_X_isGeneric (d : Nat) (x0 : Int32) (s : zS) : zcall zMs skX (d + 1) 123 [.inl x0] s = bX_X_isGeneric_0 (zcall zMs skX d) (zexec skX (zcall zMs skX d) zT_X_isGeneric 3 19999) x0 s := bX_X_isGeneric_0_e (zcall zMs skX d) (zexec skX (zcall zMs skX d) zT_X_isGeneric 3 19999) x0 s
set_option maxRecDepth 100000 in
theorem aX_X_isSort (d : Nat) (x0 : Int32) (s : zS) : zcall zMs skX (d + 1) 124 [.inl x0] s = bX_X_isSort_0 (zcall zMs skX d) (zexec skX (zcall zMs skX d) zT_X_isSort 3 19999) x0 s := bX_X_isSort_0_e (zcall zMs skX d) (zexec skX (zcall zMs skX d) zT_X_isSort 3 19999) x0 s
set_option maxRecDepth 100000 in
theorem aX_X_wayOf (d : Nat) (x1 : Int32) (x2 : Int32) (s : zS) : zcall zMs skX (d + 1) 106 [.inr (.inr 0), .inl x1, .inl x2] s = bX_X_wayOf_0 (zcall zMs skX d) (zexec skX (zcall zMs skX d) zT_X_wayOf 1 19999) x1 x2 s := bX_X_wayOf_0_e (zcall zMs skX d) (zexec skX (zcall zMs skX d) zT_X_wayOf 1 19999) x1 x2 s
set_option maxRecDepth 100000 in
theorem aX_X_applies (d : Nat) (x1 : Int32) (x2 : Int32) (x3 : Int32) (x4 : Int32) (x5 : Int32) (s : zS) : zcall zMs skX (d + 1) 107 [.inr (.inr 0), .inl x1, .inl x2, .inl x3, .inl x4, .inl x5] s = bX_X_applies_0 (zcall zMs skX d) (zexec skX (zcall zMs skX d) zT_X_applies 1 19999) x1 x2 x3 x4 x5 s := bX_X_applies_0_e (zcall zMs skX d) (zexec skX (zcall zMs skX d) zT_X_applies 1 19999) x1 x2 x3 x4 x5 s
set_option maxRecDepth 100000 in
theorem aX_A_find (d : Nat) (x2 : Int32) (x3 : Int32) (x4 : Int32) (s : zS) : zcall zMs skX (d + 1) 0 [.inr (.inr 12), .inr (.inr 2), .inl x2, .inl x3, .inl x4] s = bX_A_find_0 (zcall zMs skX d) (zexec skX (zcall zMs skX d) zT_A_find 0 19999) x2 x3 x4 s := bX_A_find_0_e (zcall zMs skX d) (zexec skX (zcall zMs skX d) zT_A_find 0 19999) x2 x3 x4 s
set_option maxRecDepth 100000 in
theorem hX_A_find_6 (C : Nat → List zV → zS → zR) (n : Nat) (x2 : Int32) (x3 : Int32) (x4 : Int32) (x5 : Int32) (s : zS) : zexec skX C zT_A_find 0 (n + 1) 6 [some (.inr (.inr 12)), some (.inr (.inr 2)), some (.inl x2), some (.inl x3), some (.inl x4), some (.inl x5), none, none] [] s = bX_A_find_6 C (zexec skX C zT_A_find 0 n) x2 x3 x4 x5 s := bX_A_find_6_e C (zexec skX C zT_A_find 0 n) x2 x3 x4 x5 s
set_option maxRecDepth 100000 in
theorem aX_A_insert (d : Nat) (x1 : Int32) (x2 : Int32) (s : zS) : zcall zMs skX (d + 1) 1 [.inr (.inr 12), .inl x1, .inl x2] s = bX_A_insert_0 (zcall zMs skX d) (zexec skX (zcall zMs skX d) zT_A_insert 0 19999) x1 x2 s := bX_A_insert_0_e (zcall zMs skX d) (zexec skX (zcall zMs skX d) zT_A_insert 0 19999) x1 x2 s
set_option maxRecDepth 100000 in
theorem hX_A_insert_9 (C : Nat → List zV → zS → zR) (n : Nat) (x1 : Int32) (x2 : Int32) (x3 : Int32) (x4 : Int32) (s : zS) : zexec skX C zT_A_insert 0 (n + 1) 9 [some (.inr (.inr 12)), some (.inl x1), some (.inl x2), some (.inl x3), some (.inl x4)] [] s = bX_A_insert_9 C (zexec skX C zT_A_insert 0 n) x1 x2 x3 x4 s := bX_A_insert_9_e C (zexec skX C zT_A_insert 0 n) x1 x2 x3 x4 s
set_option maxRecDepth 100000 in
theorem aX_A_standsBefore (d : Nat) (x1 : Int32) (x2 : Int32) (s : zS) : zcall zMs skX (d + 1) 2 [.inr (.inr 12), .inl x1, .inl x2] s = bX_A_standsBefore_0 (zcall zMs skX d) (zexec skX (zcall zMs skX d) zT_A_standsBefore 3 19999) x1 x2 s := bX_A_standsBefore_0_e (zcall zMs skX d) (zexec skX (zcall zMs skX d) zT_A_standsBefore 3 19999) x1 x2 s
set_option maxRecDepth 100000 in
theorem aX_J_fill2_13 (d : Nat) (x1 : Int32) (s : zS) : zcall zMs skX (d + 1) 220 [.inr (.inr 13), .inl x1] s = bX_J_fill2_13_0 (zcall zMs skX d) (zexec skX (zcall zMs skX d) zT_J_fill2 0 19999) x1 s := bX_J_fill2_13_0_e (zcall zMs skX d) (zexec skX (zcall zMs skX d) zT_J_fill2 0 19999) x1 s
set_option maxRecDepth 100000 in
theorem hX_J_fill2_13_5 (C : Nat → List zV → zS → zR) (n : Nat) (x1 : Int32) (x2 : Int32) (x3 : Int32) (s : zS) : zexec skX C zT_J_fill2 0 (n + 1) 5 [some (.inr (.inr 13)), some (.inl x1), some (.inl x2), some (.inl x3)] [] s = bX_J_fill2_13_5 C (zexec skX C zT_J_fill2 0 n) x1 x2 x3 s := bX_J_fill2_13_5_e C (zexec skX C zT_J_fill2 0 n) x1 x2 x3 s
set_option maxRecDepth 100000 in
theorem aX_X_tie (d : Nat) (x1 : Int32) (x2 : Int32) (x3 : Int32) (s : zS) : zcall zMs skX (d + 1) 108 [.inr (.inr 0), .inl x1, .inl x2, .inl x3] s = bX_X_tie_0 (zcall zMs skX d) (zexec skX (zcall zMs skX d) zT_X_tie 1 19999) x1 x2 x3 s := bX_X_tie_0_e (zcall zMs skX d) (zexec skX (zcall zMs skX d) zT_X_tie 1 19999) x1 x2 x3 s
set_option maxRecDepth 100000 in
theorem aX_A_isTied (d : Nat) (s : zS) : zcall zMs skX (d + 1) 4 [.inr (.inr 12)] s = bX_A_isTied_0 (zcall zMs skX d) (zexec skX (zcall zMs skX d) zT_A_isTied 3 19999) s := bX_A_isTied_0_e (zcall zMs skX d) (zexec skX (zcall zMs skX d) zT_A_isTied 3 19999) s
set_option maxRecDepth 100000 in
theorem aX_X_call (d : Nat) (x1 : Int32) (x2 : Int32) (x3 : Int32) (x4 : Int32) (s : zS) : zcall zMs skX (d + 1) 109 [.inr (.inr 0), .inl x1, .inl x2, .inl x3, .inl x4] s = bX_X_call_0 (zcall zMs skX d) (zexec skX (zcall zMs skX d) zT_X_call 1 19999) x1 x2 x3 x4 s := bX_X_call_0_e (zcall zMs skX d) (zexec skX (zcall zMs skX d) zT_X_call 1 19999) x1 x2 x3 x4 s
set_option maxRecDepth 100000 in
theorem aX_U_callGeneric (d : Nat) (x1 : Int32) (x2 : Int32) (x3 : Int32) (x4 : Int32) (s : zS) : zcall zMs skX (d + 1) 30 [.inr (.inr 1), .inl x1, .inl x2, .inl x3, .inl x4] s = bX_U_callGeneric_0 (zcall zMs skX d) (zexec skX (zcall zMs skX d) zT_U_callGeneric 1 19999) x1 x2 x3 x4 s := bX_U_callGeneric_0_e (zcall zMs skX d) (zexec skX (zcall zMs skX d) zT_U_callGeneric 1 19999) x1 x2 x3 x4 s
set_option maxRecDepth 100000 in
theorem aX_X_trace (d : Nat) (x1 : Int32) (s : zS) : zcall zMs skX (d + 1) 110 [.inr (.inr 0), .inl x1] s = bX_X_trace_0 (zcall zMs skX d) (zexec skX (zcall zMs skX d) zT_X_trace 1 19999) x1 s := bX_X_trace_0_e (zcall zMs skX d) (zexec skX (zcall zMs skX d) zT_X_trace 1 19999) x1 s
set_option maxRecDepth 100000 in
theorem aX_X_judge (d : Nat) (x1 : Int32) (x2 : Int32) (x3 : Int32) (x4 : Int32) (s : zS) : zcall zMs skX (d + 1) 111 [.inr (.inr 0), .inl x1, .inl x2, .inl x3, .inl x4] s = bX_X_judge_0 (zcall zMs skX d) (zexec skX (zcall zMs skX d) zT_X_judge 1 19999) x1 x2 x3 x4 s := bX_X_judge_0_e (zcall zMs skX d) (zexec skX (zcall zMs skX d) zT_X_judge 1 19999) x1 x2 x3 x4 s
set_option maxRecDepth 100000 in
theorem hX_X_judge_55 (C : Nat → List zV → zS → zR) (n : Nat) (x1 : Int32) (x2 : Int32) (x3 : Int32) (x4 : Int32) (x6 : Int32) (s : zS) : zexec skX C zT_X_judge 1 (n + 1) 55 [some (.inr (.inr 0)), some (.inl x1), some (.inl x2), some (.inl x3), some (.inl x4), none, some (.inl x6), none] [] s = bX_X_judge_55 C (zexec skX C zT_X_judge 1 n) x1 x2 x3 x4 x6 s := bX_X_judge_55_e C (zexec skX C zT_X_judge 1 n) x1 x2 x3 x4 x6 s
set_option maxRecDepth 100000 in
theorem aX_X_days (d : Nat) (x1 : Int32) (s : zS) : zcall zMs skX (d + 1) 112 [.inr (.inr 0), .inl x1] s = bX_X_days_0 (zcall zMs skX d) (zexec skX (zcall zMs skX d) zT_X_days 1 19999) x1 s := bX_X_days_0_e (zcall zMs skX d) (zexec skX (zcall zMs skX d) zT_X_days 1 19999) x1 s
set_option maxRecDepth 100000 in
theorem hX_X_days_23 (C : Nat → List zV → zS → zR) (n : Nat) (x1 : Int32) (x2 : Int32) (s : zS) : zexec skX C zT_X_days 1 (n + 1) 23 [some (.inr (.inr 0)), some (.inl x1), some (.inl x2)] [] s = bX_X_days_23 C (zexec skX C zT_X_days 1 n) x1 x2 s := bX_X_days_23_e C (zexec skX C zT_X_days 1 n) x1 x2 s
set_option maxRecDepth 100000 in
theorem aX_W_slotsOfAll (d : Nat) (s : zS) : zcall zMs skX (d + 1) 78 [.inr (.inr 2)] s = bX_W_slotsOfAll_0 (zcall zMs skX d) (zexec skX (zcall zMs skX d) zT_W_slotsOfAll 1 19999) s := bX_W_slotsOfAll_0_e (zcall zMs skX d) (zexec skX (zcall zMs skX d) zT_W_slotsOfAll 1 19999) s
set_option maxRecDepth 100000 in
theorem hX_W_slotsOfAll_4 (C : Nat → List zV → zS → zR) (n : Nat) (x1 : Int32) (x2 : Int32) (s : zS) : zexec skX C zT_W_slotsOfAll 1 (n + 1) 4 [some (.inr (.inr 2)), some (.inl x1), some (.inl x2)] [] s = bX_W_slotsOfAll_4 C (zexec skX C zT_W_slotsOfAll 1 n) x1 x2 s := bX_W_slotsOfAll_4_e C (zexec skX C zT_W_slotsOfAll 1 n) x1 x2 s
set_option maxRecDepth 100000 in
theorem aX_X_liveDay (d : Nat) (s : zS) : zcall zMs skX (d + 1) 120 [.inr (.inr 0)] s = bX_X_liveDay_0 (zcall zMs skX d) (zexec skX (zcall zMs skX d) zT_X_liveDay 0 19999) s := bX_X_liveDay_0_e (zcall zMs skX d) (zexec skX (zcall zMs skX d) zT_X_liveDay 0 19999) s
set_option maxRecDepth 100000 in
theorem aX_W_draw (d : Nat) (x1 : Int32) (s : zS) : zcall zMs skX (d + 1) 80 [.inr (.inr 2), .inl x1] s = bX_W_draw_0 (zcall zMs skX d) (zexec skX (zcall zMs skX d) zT_W_draw 1 19999) x1 s := bX_W_draw_0_e (zcall zMs skX d) (zexec skX (zcall zMs skX d) zT_W_draw 1 19999) x1 s
set_option maxRecDepth 100000 in
theorem aX_X_seed (d : Nat) (x1 : Int32) (s : zS) : zcall zMs skX (d + 1) 113 [.inr (.inr 0), .inl x1] s = bX_X_seed_0 (zcall zMs skX d) (zexec skX (zcall zMs skX d) zT_X_seed 1 19999) x1 s := bX_X_seed_0_e (zcall zMs skX d) (zexec skX (zcall zMs skX d) zT_X_seed 1 19999) x1 s
set_option maxRecDepth 100000 in
theorem aX_X_image (d : Nat) (s : zS) : zcall zMs skX (d + 1) 114 [.inr (.inr 0)] s = bX_X_image_0 (zcall zMs skX d) (zexec skX (zcall zMs skX d) zT_X_image 1 19999) s := bX_X_image_0_e (zcall zMs skX d) (zexec skX (zcall zMs skX d) zT_X_image 1 19999) s
set_option maxRecDepth 100000 in
theorem aX_W_takeFrom (d : Nat) (s : zS) : zcall zMs skX (d + 1) 81 [.inr (.inr 22), .inr (.inr 2)] s = bX_W_takeFrom_0 (zcall zMs skX d) (zexec skX (zcall zMs skX d) zT_W_takeFrom 0 19999) s := bX_W_takeFrom_0_e (zcall zMs skX d) (zexec skX (zcall zMs skX d) zT_W_takeFrom 0 19999) s
set_option maxRecDepth 100000 in
theorem aX_X_restore (d : Nat) (s : zS) : zcall zMs skX (d + 1) 115 [.inr (.inr 0)] s = bX_X_restore_0 (zcall zMs skX d) (zexec skX (zcall zMs skX d) zT_X_restore 1 19999) s := bX_X_restore_0_e (zcall zMs skX d) (zexec skX (zcall zMs skX d) zT_X_restore 1 19999) s
set_option maxRecDepth 100000 in
theorem aX_H_dropObjectsFrom (d : Nat) (x1 : Int32) (s : zS) : zcall zMs skX (d + 1) 59 [.inr (.inr 32), .inl x1] s = bX_H_dropObjectsFrom_0 (zcall zMs skX d) (zexec skX (zcall zMs skX d) zT_H_dropObjectsFrom 0 19999) x1 s := bX_H_dropObjectsFrom_0_e (zcall zMs skX d) (zexec skX (zcall zMs skX d) zT_H_dropObjectsFrom 0 19999) x1 s
set_option maxRecDepth 100000 in
theorem hX_H_dropObjectsFrom_2 (C : Nat → List zV → zS → zR) (n : Nat) (x1 : Int32) (x2 : Int32) (s : zS) : zexec skX C zT_H_dropObjectsFrom 0 (n + 1) 2 [some (.inr (.inr 32)), some (.inl x1), some (.inl x2)] [] s = bX_H_dropObjectsFrom_2 C (zexec skX C zT_H_dropObjectsFrom 0 n) x1 x2 s := bX_H_dropObjectsFrom_2_e C (zexec skX C zT_H_dropObjectsFrom 0 n) x1 x2 s
set_option maxRecDepth 100000 in
theorem aX_W_takeFrom_2_22 (d : Nat) (s : zS) : zcall zMs skX (d + 1) 81 [.inr (.inr 2), .inr (.inr 22)] s = bX_W_takeFrom_2_22_0 (zcall zMs skX d) (zexec skX (zcall zMs skX d) zT_W_takeFrom 0 19999) s := bX_W_takeFrom_2_22_0_e (zcall zMs skX d) (zexec skX (zcall zMs skX d) zT_W_takeFrom 0 19999) s
set_option maxRecDepth 100000 in
theorem aX_X_status (d : Nat) (x1 : Int32) (s : zS) : zcall zMs skX (d + 1) 116 [.inr (.inr 0), .inl x1] s = bX_X_status_0 (zcall zMs skX d) (zexec skX (zcall zMs skX d) zT_X_status 1 19999) x1 s := bX_X_status_0_e (zcall zMs skX d) (zexec skX (zcall zMs skX d) zT_X_status 1 19999) x1 s
set_option maxRecDepth 100000 in
theorem aX_W_methodsOfAll (d : Nat) (s : zS) : zcall zMs skX (d + 1) 79 [.inr (.inr 2)] s = bX_W_methodsOfAll_0 (zcall zMs skX d) (zexec skX (zcall zMs skX d) zT_W_methodsOfAll 1 19999) s := bX_W_methodsOfAll_0_e (zcall zMs skX d) (zexec skX (zcall zMs skX d) zT_W_methodsOfAll 1 19999) s
set_option maxRecDepth 100000 in
theorem hX_W_methodsOfAll_4 (C : Nat → List zV → zS → zR) (n : Nat) (x1 : Int32) (x2 : Int32) (s : zS) : zexec skX C zT_W_methodsOfAll 1 (n + 1) 4 [some (.inr (.inr 2)), some (.inl x1), some (.inl x2)] [] s = bX_W_methodsOfAll_4 C (zexec skX C zT_W_methodsOfAll 1 n) x1 x2 s := bX_W_methodsOfAll_4_e C (zexec skX C zT_W_methodsOfAll 1 n) x1 x2 s
set_option maxRecDepth 100000 in
theorem aX_J_fill2_33 (d : Nat) (x1 : Int32) (s : zS) : zcall zMs skX (d + 1) 220 [.inr (.inr 33), .inl x1] s = bX_J_fill2_33_0 (zcall zMs skX d) (zexec skX (zcall zMs skX d) zT_J_fill2 0 19999) x1 s := bX_J_fill2_33_0_e (zcall zMs skX d) (zexec skX (zcall zMs skX d) zT_J_fill2 0 19999) x1 s
set_option maxRecDepth 100000 in
theorem hX_J_fill2_33_5 (C : Nat → List zV → zS → zR) (n : Nat) (x1 : Int32) (x2 : Int32) (x3 : Int32) (s : zS) : zexec skX C zT_J_fill2 0 (n + 1) 5 [some (.inr (.inr 33)), some (.inl x1), some (.inl x2), some (.inl x3)] [] s = bX_J_fill2_33_5 C (zexec skX C zT_J_fill2 0 n) x1 x2 x3 s := bX_J_fill2_33_5_e C (zexec skX C zT_J_fill2 0 n) x1 x2 x3 s
