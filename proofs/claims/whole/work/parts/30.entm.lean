set_option maxRecDepth 100000 in
theorem aM_M_row (d : Nat) (x1 : Int32) (x2 : Int32) (x3 : Int32) (s : zS) : zcall zMs skM (d + 1) 133 [.inr (.inr 0), .inl x1, .inl x2, .inl x3] s = bM_M_row_0 (zcall zMs skM d) (zexec skM (zcall zMs skM d) zT_M_row 1 19999) x1 x2 x3 s := bM_M_row_0_e (zcall zMs skM d) (zexec skM (zcall zMs skM d) zT_M_row 1 19999) x1 x2 x3 s
set_option maxRecDepth 100000 in
theorem hM_M_row_45 (C : Nat → List zV → zS → zR) (n : Nat) (x1 : Int32) (x4 : Int32) (s : zS) : zexec skM C zT_M_row 1 (n + 1) 45 [some (.inr (.inr 0)), some (.inl x1), none, none, some (.inl x4)] [] s = bM_M_row_45 C (zexec skM C zT_M_row 1 n) x1 x4 s := bM_M_row_45_e C (zexec skM C zT_M_row 1 n) x1 x4 s
set_option maxRecDepth 100000 in
theorem aM_M_no (d : Nat) (x1 : Int32) (s : zS) : zcall zMs skM (d + 1) 126 [.inr (.inr 0), .inl x1] s = bM_M_no_0 (zcall zMs skM d) (zexec skM (zcall zMs skM d) zT_M_no 1 19999) x1 s := bM_M_no_0_e (zcall zMs skM d) (zexec skM (zcall zMs skM d) zT_M_no 1 19999) x1 s
set_option maxRecDepth 100000 in
theorem aM_M_within (d : Nat) (x0 : Int32) (x1 : Int32) (x2 : Int32) (s : zS) : zcall zMs skM (d + 1) 128 [.inl x0, .inl x1, .inl x2] s = bM_M_within_0 (zcall zMs skM d) (zexec skM (zcall zMs skM d) zT_M_within 3 19999) x0 x1 x2 s := bM_M_within_0_e (zcall zMs skM d) (zexec skM (zcall zMs skM d) zT_M_within 3 19999) x0 x1 x2 s
set_option maxRecDepth 100000 in
theorem aM_M_set (d : Nat) (x1 : Int32) (x2 : Int32) (x3 : Int64) (s : zS) : zcall zMs skM (d + 1) 135 [.inr (.inr 0), .inl x1, .inl x2, .inr (.inl x3)] s = bM_M_set_0 (zcall zMs skM d) (zexec skM (zcall zMs skM d) zT_M_set 1 19999) x1 x2 x3 s := bM_M_set_0_e (zcall zMs skM d) (zexec skM (zcall zMs skM d) zT_M_set 1 19999) x1 x2 x3 s
set_option maxRecDepth 100000 in
theorem aM_M_noRow (d : Nat) (x1 : Int32) (s : zS) : zcall zMs skM (d + 1) 134 [.inr (.inr 0), .inl x1] s = bM_M_noRow_0 (zcall zMs skM d) (zexec skM (zcall zMs skM d) zT_M_noRow 1 19999) x1 s := bM_M_noRow_0_e (zcall zMs skM d) (zexec skM (zcall zMs skM d) zT_M_noRow 1 19999) x1 s
set_option maxRecDepth 100000 in
theorem aM_M_isRow (d : Nat) (x1 : Int32) (s : zS) : zcall zMs skM (d + 1) 132 [.inr (.inr 0), .inl x1] s = bM_M_isRow_0 (zcall zMs skM d) (zexec skM (zcall zMs skM d) zT_M_isRow 3 19999) x1 s := bM_M_isRow_0_e (zcall zMs skM d) (zexec skM (zcall zMs skM d) zT_M_isRow 3 19999) x1 s
set_option maxRecDepth 100000 in
theorem aM_M_copy (d : Nat) (x1 : Int32) (x2 : Int32) (x3 : Int32) (x4 : Int32) (x5 : Int32) (s : zS) : zcall zMs skM (d + 1) 136 [.inr (.inr 0), .inl x1, .inl x2, .inl x3, .inl x4, .inl x5] s = bM_M_copy_0 (zcall zMs skM d) (zexec skM (zcall zMs skM d) zT_M_copy 1 19999) x1 x2 x3 x4 x5 s := bM_M_copy_0_e (zcall zMs skM d) (zexec skM (zcall zMs skM d) zT_M_copy 1 19999) x1 x2 x3 x4 x5 s
set_option maxRecDepth 100000 in
theorem hM_M_copy_23 (C : Nat → List zV → zS → zR) (n : Nat) (x1 : Int32) (x2 : Int32) (x3 : Int32) (x4 : Int32) (x5 : Int32) (s : zS) : zexec skM C zT_M_copy 1 (n + 1) 23 [some (.inr (.inr 0)), some (.inl x1), some (.inl x2), some (.inl x3), some (.inl x4), some (.inl x5), none] [] s = bM_M_copy_23 C (zexec skM C zT_M_copy 1 n) x1 x2 x3 x4 x5 s := bM_M_copy_23_e C (zexec skM C zT_M_copy 1 n) x1 x2 x3 x4 x5 s
set_option maxRecDepth 100000 in
theorem hM_M_copy_32 (C : Nat → List zV → zS → zR) (n : Nat) (x1 : Int32) (x2 : Int32) (x3 : Int32) (x4 : Int32) (x5 : Int32) (s : zS) : zexec skM C zT_M_copy 1 (n + 1) 32 [some (.inr (.inr 0)), some (.inl x1), some (.inl x2), some (.inl x3), some (.inl x4), some (.inl x5), none] [] s = bM_M_copy_32 C (zexec skM C zT_M_copy 1 n) x1 x2 x3 x4 x5 s := bM_M_copy_32_e C (zexec skM C zT_M_copy 1 n) x1 x2 x3 x4 x5 s
set_option maxRecDepth 100000 in
theorem hM_M_copy_115 (C : Nat → List zV → zS → zR) (n : Nat) (x1 : Int32) (x2 : Int32) (x3 : Int32) (x4 : Int32) (x6 : Int32) (s : zS) : zexec skM C zT_M_copy 1 (n + 1) 115 [some (.inr (.inr 0)), some (.inl x1), some (.inl x2), some (.inl x3), some (.inl x4), none, some (.inl x6)] [] s = bM_M_copy_115 C (zexec skM C zT_M_copy 1 n) x1 x2 x3 x4 x6 s := bM_M_copy_115_e C (zexec skM C zT_M_copy 1 n) x1 x2 x3 x4 x6 s
set_option maxRecDepth 100000 in
theorem hM_M_copy_142 (C : Nat → List zV → zS → zR) (n : Nat) (x1 : Int32) (x2 : Int32) (x3 : Int32) (x4 : Int32) (x5 : Int32) (x6 : Int32) (s : zS) : zexec skM C zT_M_copy 1 (n + 1) 142 [some (.inr (.inr 0)), some (.inl x1), some (.inl x2), some (.inl x3), some (.inl x4), some (.inl x5), some (.inl x6)] [] s = bM_M_copy_142 C (zexec skM C zT_M_copy 1 n) x1 x2 x3 x4 x5 x6 s := bM_M_copy_142_e C (zexec skM C zT_M_copy 1 n) x1 x2 x3 x4 x5 x6 s
set_option maxRecDepth 100000 in
theorem aM_M_element (d : Nat) (x1 : Int32) (x2 : Int32) (s : zS) : zcall zMs skM (d + 1) 137 [.inr (.inr 0), .inl x1, .inl x2] s = bM_M_element_0 (zcall zMs skM d) (zexec skM (zcall zMs skM d) zT_M_element 2 19999) x1 x2 s := bM_M_element_0_e (zcall zMs skM d) (zexec skM (zcall zMs skM d) zT_M_element 2 19999) x1 x2 s
set_option maxRecDepth 100000 in
theorem aM_M_show (d : Nat) (x1 : Int32) (x2 : Int32) (s : zS) : zcall zMs skM (d + 1) 138 [.inr (.inr 0), .inl x1, .inl x2] s = bM_M_show_0 (zcall zMs skM d) (zexec skM (zcall zMs skM d) zT_M_show 1 19999) x1 x2 s := bM_M_show_0_e (zcall zMs skM d) (zexec skM (zcall zMs skM d) zT_M_show 1 19999) x1 x2 s
set_option maxRecDepth 100000 in
theorem aM_M_isOne (d : Nat) (x1 : Int32) (s : zS) : zcall zMs skM (d + 1) 129 [.inr (.inr 0), .inl x1] s = bM_M_isOne_0 (zcall zMs skM d) (zexec skM (zcall zMs skM d) zT_M_isOne 3 19999) x1 s := bM_M_isOne_0_e (zcall zMs skM d) (zexec skM (zcall zMs skM d) zT_M_isOne 3 19999) x1 s
set_option maxRecDepth 100000 in
theorem aM_M_holds (d : Nat) (x1 : Int32) (s : zS) : zcall zMs skM (d + 1) 139 [.inr (.inr 0), .inl x1] s = bM_M_holds_0 (zcall zMs skM d) (zexec skM (zcall zMs skM d) zT_M_holds 1 19999) x1 s := bM_M_holds_0_e (zcall zMs skM d) (zexec skM (zcall zMs skM d) zT_M_holds 1 19999) x1 s
set_option maxRecDepth 100000 in
theorem aM_M_says (d : Nat) (x1 : Int32) (x2 : Int32) (s : zS) : zcall zMs skM (d + 1) 140 [.inr (.inr 0), .inl x1, .inl x2] s = bM_M_says_0 (zcall zMs skM d) (zexec skM (zcall zMs skM d) zT_M_says 1 19999) x1 x2 s := bM_M_says_0_e (zcall zMs skM d) (zexec skM (zcall zMs skM d) zT_M_says 1 19999) x1 x2 s
set_option maxRecDepth 100000 in
theorem hM_M_says_46 (C : Nat → List zV → zS → zR) (n : Nat) (x2 : Int32) (x3 : Int32) (s : zS) : zexec skM C zT_M_says 1 (n + 1) 46 [some (.inr (.inr 0)), none, some (.inl x2), some (.inl x3)] [] s = bM_M_says_46 C (zexec skM C zT_M_says 1 n) x2 x3 s := bM_M_says_46_e C (zexec skM C zT_M_says 1 n) x2 x3 s
set_option maxRecDepth 100000 in
theorem aM_J_bitCount (d : Nat) (x0 : Int32) (s : zS) : zcall zMs skM (d + 1) 215 [.inl x0] s = bM_J_bitCount_0 (zcall zMs skM d) (zexec skM (zcall zMs skM d) zT_J_bitCount 1 19999) x0 s := bM_J_bitCount_0_e (zcall zMs skM d) (zexec skM (zcall zMs skM d) zT_J_bitCount 1 19999) x0 s
set_option maxRecDepth 100000 in
theorem aM_M_make (d : Nat) (x1 : Int32) (x2 : Int32) (x3 : Int32) (x4 : Int32) (x5 : Int32) (s : zS) : zcall zMs skM (d + 1) 149 [.inr (.inr 0), .inl x1, .inl x2, .inl x3, .inl x4, .inl x5] s = bM_M_make_0 (zcall zMs skM d) (zexec skM (zcall zMs skM d) zT_M_make 1 19999) x1 x2 x3 x4 x5 s := bM_M_make_0_e (zcall zMs skM d) (zexec skM (zcall zMs skM d) zT_M_make 1 19999) x1 x2 x3 x4 x5 s
set_option maxRecDepth 100000 in
theorem aM_M_areThere (d : Nat) (x1 : Int32) (s : zS) : zcall zMs skM (d + 1) 148 [.inr (.inr 0), .inl x1] s = bM_M_areThere_0 (zcall zMs skM d) (zexec skM (zcall zMs skM d) zT_M_areThere 3 19999) x1 s := bM_M_areThere_0_e (zcall zMs skM d) (zexec skM (zcall zMs skM d) zT_M_areThere 3 19999) x1 s
set_option maxRecDepth 100000 in
theorem hM_M_areThere_2 (C : Nat → List zV → zS → zR) (n : Nat) (x1 : Int32) (x2 : Int32) (s : zS) : zexec skM C zT_M_areThere 3 (n + 1) 2 [some (.inr (.inr 0)), some (.inl x1), some (.inl x2)] [] s = bM_M_areThere_2 C (zexec skM C zT_M_areThere 3 n) x1 x2 s := bM_M_areThere_2_e C (zexec skM C zT_M_areThere 3 n) x1 x2 s
set_option maxRecDepth 100000 in
theorem aM_M_isFit (d : Nat) (x1 : Int32) (s : zS) : zcall zMs skM (d + 1) 145 [.inr (.inr 0), .inl x1] s = bM_M_isFit_0 (zcall zMs skM d) (zexec skM (zcall zMs skM d) zT_M_isFit 3 19999) x1 s := bM_M_isFit_0_e (zcall zMs skM d) (zexec skM (zcall zMs skM d) zT_M_isFit 3 19999) x1 s
set_option maxRecDepth 100000 in
theorem hM_M_isFit_2 (C : Nat → List zV → zS → zR) (n : Nat) (x1 : Int32) (x2 : Int32) (s : zS) : zexec skM C zT_M_isFit 3 (n + 1) 2 [some (.inr (.inr 0)), some (.inl x1), some (.inl x2), none] [] s = bM_M_isFit_2 C (zexec skM C zT_M_isFit 3 n) x1 x2 s := bM_M_isFit_2_e C (zexec skM C zT_M_isFit 3 n) x1 x2 s
set_option maxRecDepth 100000 in
theorem hM_M_isFit_18 (C : Nat → List zV → zS → zR) (n : Nat) (x1 : Int32) (x2 : Int32) (x3 : Int32) (s : zS) : zexec skM C zT_M_isFit 3 (n + 1) 18 [some (.inr (.inr 0)), some (.inl x1), some (.inl x2), some (.inl x3)] [] s = bM_M_isFit_18 C (zexec skM C zT_M_isFit 3 n) x1 x2 x3 s := bM_M_isFit_18_e C (zexec skM C zT_M_isFit 3 n) x1 x2 x3 s
set_option maxRecDepth 100000 in
theorem aM_M_merges (d : Nat) (x2 : Int32) (x3 : Int32) (s : zS) : zcall zMs skM (d + 1) 144 [.inr (.inr 0), .inr (.inr 14), .inl x2, .inl x3] s = bM_M_merges_0 (zcall zMs skM d) (zexec skM (zcall zMs skM d) zT_M_merges 3 19999) x2 x3 s := bM_M_merges_0_e (zcall zMs skM d) (zexec skM (zcall zMs skM d) zT_M_merges 3 19999) x2 x3 s
set_option maxRecDepth 100000 in
theorem hM_M_merges_4 (C : Nat → List zV → zS → zR) (n : Nat) (x2 : Int32) (x3 : Int32) (x4 : Int32) (x5 : Int32) (s : zS) : zexec skM C zT_M_merges 3 (n + 1) 4 [some (.inr (.inr 0)), some (.inr (.inr 14)), some (.inl x2), some (.inl x3), some (.inl x4), some (.inl x5), none] [] s = bM_M_merges_4 C (zexec skM C zT_M_merges 3 n) x2 x3 x4 x5 s := bM_M_merges_4_e C (zexec skM C zT_M_merges 3 n) x2 x3 x4 x5 s
set_option maxRecDepth 100000 in
theorem hM_M_merges_49 (C : Nat → List zV → zS → zR) (n : Nat) (x3 : Int32) (x4 : Int32) (s : zS) : zexec skM C zT_M_merges 3 (n + 1) 49 [some (.inr (.inr 0)), none, none, some (.inl x3), some (.inl x4), none, none] [] s = bM_M_merges_49 C (zexec skM C zT_M_merges 3 n) x3 x4 s := bM_M_merges_49_e C (zexec skM C zT_M_merges 3 n) x3 x4 s
set_option maxRecDepth 100000 in
theorem hM_M_merges_76 (C : Nat → List zV → zS → zR) (n : Nat) (x3 : Int32) (x4 : Int32) (x5 : Int32) (x6 : Int32) (s : zS) : zexec skM C zT_M_merges 3 (n + 1) 76 [some (.inr (.inr 0)), none, none, some (.inl x3), some (.inl x4), some (.inl x5), some (.inl x6)] [] s = bM_M_merges_76 C (zexec skM C zT_M_merges 3 n) x3 x4 x5 x6 s := bM_M_merges_76_e C (zexec skM C zT_M_merges 3 n) x3 x4 x5 x6 s
set_option maxRecDepth 100000 in
theorem aM_M_lays (d : Nat) (x1 : Int32) (x3 : Int32) (x4 : Int32) (s : zS) : zcall zMs skM (d + 1) 141 [.inr (.inr 0), .inl x1, .inr (.inr 14), .inl x3, .inl x4] s = bM_M_lays_0 (zcall zMs skM d) (zexec skM (zcall zMs skM d) zT_M_lays 0 19999) x1 x3 x4 s := bM_M_lays_0_e (zcall zMs skM d) (zexec skM (zcall zMs skM d) zT_M_lays 0 19999) x1 x3 x4 s
set_option maxRecDepth 100000 in
theorem hM_M_lays_12 (C : Nat → List zV → zS → zR) (n : Nat) (x1 : Int32) (x3 : Int32) (x4 : Int32) (x5 : Int32) (s : zS) : zexec skM C zT_M_lays 0 (n + 1) 12 [some (.inr (.inr 0)), some (.inl x1), some (.inr (.inr 14)), some (.inl x3), some (.inl x4), some (.inl x5)] [] s = bM_M_lays_12 C (zexec skM C zT_M_lays 0 n) x1 x3 x4 x5 s := bM_M_lays_12_e C (zexec skM C zT_M_lays 0 n) x1 x3 x4 x5 s
set_option maxRecDepth 100000 in
theorem aM_M_lays_0_5 (d : Nat) (x1 : Int32) (x3 : Int32) (x4 : Int32) (s : zS) : zcall zMs skM (d + 1) 141 [.inr (.inr 0), .inl x1, .inr (.inr 5), .inl x3, .inl x4] s = bM_M_lays_0_5_0 (zcall zMs skM d) (zexec skM (zcall zMs skM d) zT_M_lays 0 19999) x1 x3 x4 s := bM_M_lays_0_5_0_e (zcall zMs skM d) (zexec skM (zcall zMs skM d) zT_M_lays 0 19999) x1 x3 x4 s
set_option maxRecDepth 100000 in
theorem hM_M_lays_0_5_12 (C : Nat → List zV → zS → zR) (n : Nat) (x1 : Int32) (x3 : Int32) (x4 : Int32) (x5 : Int32) (s : zS) : zexec skM C zT_M_lays 0 (n + 1) 12 [some (.inr (.inr 0)), some (.inl x1), some (.inr (.inr 5)), some (.inl x3), some (.inl x4), some (.inl x5)] [] s = bM_M_lays_0_5_12 C (zexec skM C zT_M_lays 0 n) x1 x3 x4 x5 s := bM_M_lays_0_5_12_e C (zexec skM C zT_M_lays 0 n) x1 x3 x4 x5 s
set_option maxRecDepth 100000 in
theorem aM_M_next (d : Nat) (x1 : Int32) (s : zS) : zcall zMs skM (d + 1) 143 [.inr (.inr 0), .inl x1] s = bM_M_next_0 (zcall zMs skM d) (zexec skM (zcall zMs skM d) zT_M_next 1 19999) x1 s := bM_M_next_0_e (zcall zMs skM d) (zexec skM (zcall zMs skM d) zT_M_next 1 19999) x1 s
set_option maxRecDepth 100000 in
theorem hM_M_next_2 (C : Nat → List zV → zS → zR) (n : Nat) (x1 : Int32) (x2 : Int32) (s : zS) : zexec skM C zT_M_next 1 (n + 1) 2 [some (.inr (.inr 0)), some (.inl x1), some (.inl x2)] [] s = bM_M_next_2 C (zexec skM C zT_M_next 1 n) x1 x2 s := bM_M_next_2_e C (zexec skM C zT_M_next 1 n) x1 x2 s
set_option maxRecDepth 100000 in
theorem aM_M_isBehind (d : Nat) (x1 : Int32) (x2 : Int32) (s : zS) : zcall zMs skM (d + 1) 142 [.inr (.inr 0), .inl x1, .inl x2] s = bM_M_isBehind_0 (zcall zMs skM d) (zexec skM (zcall zMs skM d) zT_M_isBehind 3 19999) x1 x2 s := bM_M_isBehind_0_e (zcall zMs skM d) (zexec skM (zcall zMs skM d) zT_M_isBehind 3 19999) x1 x2 s
set_option maxRecDepth 100000 in
theorem hM_M_isBehind_2 (C : Nat → List zV → zS → zR) (n : Nat) (x1 : Int32) (x2 : Int32) (x3 : Int32) (s : zS) : zexec skM C zT_M_isBehind 3 (n + 1) 2 [some (.inr (.inr 0)), some (.inl x1), some (.inl x2), some (.inl x3), none] [] s = bM_M_isBehind_2 C (zexec skM C zT_M_isBehind 3 n) x1 x2 x3 s := bM_M_isBehind_2_e C (zexec skM C zT_M_isBehind 3 n) x1 x2 x3 s
set_option maxRecDepth 100000 in
theorem hM_M_isBehind_12 (C : Nat → List zV → zS → zR) (n : Nat) (x1 : Int32) (x2 : Int32) (x3 : Int32) (x4 : Int32) (s : zS) : zexec skM C zT_M_isBehind 3 (n + 1) 12 [some (.inr (.inr 0)), some (.inl x1), some (.inl x2), some (.inl x3), some (.inl x4)] [] s = bM_M_isBehind_12 C (zexec skM C zT_M_isBehind 3 n) x1 x2 x3 x4 s := bM_M_isBehind_12_e C (zexec skM C zT_M_isBehind 3 n) x1 x2 x3 x4 s
set_option maxRecDepth 100000 in
theorem aM_M_newObject (d : Nat) (x1 : Int32) (x2 : Int32) (s : zS) : zcall zMs skM (d + 1) 146 [.inr (.inr 0), .inl x1, .inl x2] s = bM_M_newObject_0 (zcall zMs skM d) (zexec skM (zcall zMs skM d) zT_M_newObject 1 19999) x1 x2 s := bM_M_newObject_0_e (zcall zMs skM d) (zexec skM (zcall zMs skM d) zT_M_newObject 1 19999) x1 x2 s
set_option maxRecDepth 100000 in
theorem hM_M_newObject_20 (C : Nat → List zV → zS → zR) (n : Nat) (x2 : Int32) (x3 : Int32) (x4 : Int32) (s : zS) : zexec skM C zT_M_newObject 1 (n + 1) 20 [some (.inr (.inr 0)), none, some (.inl x2), some (.inl x3), some (.inl x4)] [] s = bM_M_newObject_20 C (zexec skM C zT_M_newObject 1 n) x2 x3 x4 s := bM_M_newObject_20_e C (zexec skM C zT_M_newObject 1 n) x2 x3 x4 s
set_option maxRecDepth 100000 in
theorem hM_M_newObject_59 (C : Nat → List zV → zS → zR) (n : Nat) (x3 : Int32) (x4 : Int32) (s : zS) : zexec skM C zT_M_newObject 1 (n + 1) 59 [some (.inr (.inr 0)), none, none, some (.inl x3), some (.inl x4)] [] s = bM_M_newObject_59 C (zexec skM C zT_M_newObject 1 n) x3 x4 s := bM_M_newObject_59_e C (zexec skM C zT_M_newObject 1 n) x3 x4 s
set_option maxRecDepth 100000 in
theorem aM_M_tells (d : Nat) (x1 : Int32) (x2 : Int32) (x3 : Int32) (s : zS) : zcall zMs skM (d + 1) 147 [.inr (.inr 0), .inl x1, .inl x2, .inl x3] s = bM_M_tells_0 (zcall zMs skM d) (zexec skM (zcall zMs skM d) zT_M_tells 0 19999) x1 x2 x3 s := bM_M_tells_0_e (zcall zMs skM d) (zexec skM (zcall zMs skM d) zT_M_tells 0 19999) x1 x2 x3 s
set_option maxRecDepth 100000 in
theorem aM_M_wouldBe (d : Nat) (x1 : Int32) (x2 : Int32) (x3 : Int32) (x4 : Int32) (x5 : Int32) (s : zS) : zcall zMs skM (d + 1) 150 [.inr (.inr 0), .inl x1, .inl x2, .inl x3, .inl x4, .inl x5] s = bM_M_wouldBe_0 (zcall zMs skM d) (zexec skM (zcall zMs skM d) zT_M_wouldBe 1 19999) x1 x2 x3 x4 x5 s := bM_M_wouldBe_0_e (zcall zMs skM d) (zexec skM (zcall zMs skM d) zT_M_wouldBe 1 19999) x1 x2 x3 x4 x5 s
set_option maxRecDepth 100000 in
theorem aM_M_no10 (d : Nat) (x1 : Int32) (s : zS) : zcall zMs skM (d + 1) 127 [.inr (.inr 0), .inl x1] s = bM_M_no10_0 (zcall zMs skM d) (zexec skM (zcall zMs skM d) zT_M_no10 1 19999) x1 s := bM_M_no10_0_e (zcall zMs skM d) (zexec skM (zcall zMs skM d) zT_M_no10 1 19999) x1 s
set_option maxRecDepth 100000 in
theorem aM_M_read (d : Nat) (x1 : Int32) (s : zS) : zcall zMs skM (d + 1) 160 [.inr (.inr 0), .inl x1] s = bM_M_read_0 (zcall zMs skM d) (zexec skM (zcall zMs skM d) zT_M_read 1 19999) x1 s := bM_M_read_0_e (zcall zMs skM d) (zexec skM (zcall zMs skM d) zT_M_read 1 19999) x1 s
set_option maxRecDepth 100000 in
theorem hM_M_read_22 (C : Nat → List zV → zS → zR) (n : Nat) (x1 : Int32) (x3 : Int32) (x4 : Int32) (s : zS) : zexec skM C zT_M_read 1 (n + 1) 22 [some (.inr (.inr 0)), some (.inl x1), none, some (.inl x3), some (.inl x4)] [] s = bM_M_read_22 C (zexec skM C zT_M_read 1 n) x1 x3 x4 s := bM_M_read_22_e C (zexec skM C zT_M_read 1 n) x1 x3 x4 s
set_option maxRecDepth 100000 in
theorem hM_M_read_32 (C : Nat → List zV → zS → zR) (n : Nat) (x1 : Int32) (x3 : Int32) (x4 : Int32) (s : zS) : zexec skM C zT_M_read 1 (n + 1) 32 [some (.inr (.inr 0)), some (.inl x1), none, some (.inl x3), some (.inl x4)] [] s = bM_M_read_32 C (zexec skM C zT_M_read 1 n) x1 x3 x4 s := bM_M_read_32_e C (zexec skM C zT_M_read 1 n) x1 x3 x4 s
set_option maxRecDepth 100000 in
theorem aM_M_is (d : Nat) (x1 : Int32) (s : zS) : zcall zMs skM (d + 1) 152 [.inr (.inr 0), .inl x1] s = bM_M_is_0 (zcall zMs skM d) (zexec skM (zcall zMs skM d) zT_M_is 3 19999) x1 s := bM_M_is_0_e (zcall zMs skM d) (zexec skM (zcall zMs skM d) zT_M_is 3 19999) x1 s
set_option maxRecDepth 100000 in
theorem aM_M_sign (d : Nat) (s : zS) : zcall zMs skM (d + 1) 151 [.inr (.inr 0)] s = bM_M_sign_0 (zcall zMs skM d) (zexec skM (zcall zMs skM d) zT_M_sign 1 19999) s := bM_M_sign_0_e (zcall zMs skM d) (zexec skM (zcall zMs skM d) zT_M_sign 1 19999) s
set_option maxRecDepth 100000 in
theorem aM_M_item (d : Nat) (s : zS) : zcall zMs skM (d + 1) 159 [.inr (.inr 0)] s = bM_M_item_0 (zcall zMs skM d) (zexec skM (zcall zMs skM d) zT_M_item 3 19999) s := bM_M_item_0_e (zcall zMs skM d) (zexec skM (zcall zMs skM d) zT_M_item 3 19999) s
set_option maxRecDepth 100000 in
theorem hM_M_item_36 (C : Nat → List zV → zS → zR) (n : Nat) (x1 : Int32) (x2 : Int32) (x3 : Int32) (x4 : Int32) (s : zS) : zexec skM C zT_M_item 3 (n + 1) 36 [some (.inr (.inr 0)), some (.inl x1), some (.inl x2), some (.inl x3), some (.inl x4)] [] s = bM_M_item_36 C (zexec skM C zT_M_item 3 n) x1 x2 x3 x4 s := bM_M_item_36_e C (zexec skM C zT_M_item 3 n) x1 x2 x3 x4 s
set_option maxRecDepth 100000 in
theorem aM_M_isDigit2 (d : Nat) (x1 : Int32) (s : zS) : zcall zMs skM (d + 1) 155 [.inr (.inr 0), .inl x1] s = bM_M_isDigit2_0 (zcall zMs skM d) (zexec skM (zcall zMs skM d) zT_M_isDigit2 3 19999) x1 s := bM_M_isDigit2_0_e (zcall zMs skM d) (zexec skM (zcall zMs skM d) zT_M_isDigit2 3 19999) x1 s
set_option maxRecDepth 100000 in
theorem aM_M_isDigit (d : Nat) (s : zS) : zcall zMs skM (d + 1) 153 [.inr (.inr 0)] s = bM_M_isDigit_0 (zcall zMs skM d) (zexec skM (zcall zMs skM d) zT_M_isDigit 3 19999) s := bM_M_isDigit_0_e (zcall zMs skM d) (zexec skM (zcall zMs skM d) zT_M_isDigit 3 19999) s
set_option maxRecDepth 100000 in
theorem aM_M_isParent (d : Nat) (x1 : Int32) (s : zS) : zcall zMs skM (d + 1) 156 [.inr (.inr 0), .inl x1] s = bM_M_isParent_0 (zcall zMs skM d) (zexec skM (zcall zMs skM d) zT_M_isParent 3 19999) x1 s := bM_M_isParent_0_e (zcall zMs skM d) (zexec skM (zcall zMs skM d) zT_M_isParent 3 19999) x1 s
set_option maxRecDepth 100000 in
theorem hM_M_isParent_23 (C : Nat → List zV → zS → zR) (n : Nat) (x1 : Int32) (x2 : Int32) (x3 : Int32) (s : zS) : zexec skM C zT_M_isParent 3 (n + 1) 23 [some (.inr (.inr 0)), some (.inl x1), some (.inl x2), some (.inl x3)] [] s = bM_M_isParent_23 C (zexec skM C zT_M_isParent 3 n) x1 x2 x3 s := bM_M_isParent_23_e C (zexec skM C zT_M_isParent 3 n) x1 x2 x3 s
set_option maxRecDepth 100000 in
theorem aM_M_isNumber (d : Nat) (s : zS) : zcall zMs skM (d + 1) 154 [.inr (.inr 0)] s = bM_M_isNumber_0 (zcall zMs skM d) (zexec skM (zcall zMs skM d) zT_M_isNumber 3 19999) s := bM_M_isNumber_0_e (zcall zMs skM d) (zexec skM (zcall zMs skM d) zT_M_isNumber 3 19999) s
set_option maxRecDepth 100000 in
theorem hM_M_isNumber_7 (C : Nat → List zV → zS → zR) (n : Nat) (s : zS) : zexec skM C zT_M_isNumber 3 (n + 1) 7 [some (.inr (.inr 0))] [] s = bM_M_isNumber_7 C (zexec skM C zT_M_isNumber 3 n) s := bM_M_isNumber_7_e C (zexec skM C zT_M_isNumber 3 n) s
set_option maxRecDepth 100000 in
theorem aM_M_slots (d : Nat) (x1 : Int32) (s : zS) : zcall zMs skM (d + 1) 158 [.inr (.inr 0), .inl x1] s = bM_M_slots_0 (zcall zMs skM d) (zexec skM (zcall zMs skM d) zT_M_slots 3 19999) x1 s := bM_M_slots_0_e (zcall zMs skM d) (zexec skM (zcall zMs skM d) zT_M_slots 3 19999) x1 s
set_option maxRecDepth 100000 in
theorem hM_M_slots_0 (C : Nat → List zV → zS → zR) (n : Nat) (x1 : Int32) (s : zS) : zexec skM C zT_M_slots 3 (n + 1) 0 [some (.inr (.inr 0)), some (.inl x1), none, none, none] [] s = bM_M_slots_0 C (zexec skM C zT_M_slots 3 n) x1 s := bM_M_slots_0_e C (zexec skM C zT_M_slots 3 n) x1 s
set_option maxRecDepth 100000 in
theorem aM_M_holds2 (d : Nat) (x1 : Int32) (x2 : Int32) (x3 : Int32) (x4 : Int32) (x5 : Int32) (s : zS) : zcall zMs skM (d + 1) 162 [.inr (.inr 0), .inl x1, .inl x2, .inl x3, .inl x4, .inl x5] s = bM_M_holds2_0 (zcall zMs skM d) (zexec skM (zcall zMs skM d) zT_M_holds2 0 19999) x1 x2 x3 x4 x5 s := bM_M_holds2_0_e (zcall zMs skM d) (zexec skM (zcall zMs skM d) zT_M_holds2 0 19999) x1 x2 x3 x4 x5 s
set_option maxRecDepth 100000 in
theorem aM_M_isSigned (d : Nat) (s : zS) : zcall zMs skM (d + 1) 157 [.inr (.inr 0)] s = bM_M_isSigned_0 (zcall zMs skM d) (zexec skM (zcall zMs skM d) zT_M_isSigned 3 19999) s := bM_M_isSigned_0_e (zcall zMs skM d) (zexec skM (zcall zMs skM d) zT_M_isSigned 3 19999) s
set_option maxRecDepth 100000 in
theorem aM_M_fault (d : Nat) (s : zS) : zcall zMs skM (d + 1) 161 [.inr (.inr 0)] s = bM_M_fault_0 (zcall zMs skM d) (zexec skM (zcall zMs skM d) zT_M_fault 1 19999) s := bM_M_fault_0_e (zcall zMs skM d) (zexec skM (zcall zMs skM d) zT_M_fault 1 19999) s
set_option maxRecDepth 100000 in
theorem aM_M_value (d : Nat) (x1 : Int32) (x2 : Int32) (x3 : Int32) (s : zS) : zcall zMs skM (d + 1) 163 [.inr (.inr 0), .inl x1, .inl x2, .inl x3] s = bM_M_value_0 (zcall zMs skM d) (zexec skM (zcall zMs skM d) zT_M_value 1 19999) x1 x2 x3 s := bM_M_value_0_e (zcall zMs skM d) (zexec skM (zcall zMs skM d) zT_M_value 1 19999) x1 x2 x3 s
set_option maxRecDepth 100000 in
theorem aM_M_isSlot (d : Nat) (x0 : Int32) (s : zS) : zcall zMs skM (d + 1) 130 [.inl x0] s = bM_M_isSlot_0 (zcall zMs skM d) (zexec skM (zcall zMs skM d) zT_M_isSlot 3 19999) x0 s := bM_M_isSlot_0_e (zcall zMs skM d) (zexec skM (zcall zMs skM d) zT_M_isSlot 3 19999) x0 s
set_option maxRecDepth 100000 in
theorem aM_M_method (d : Nat) (x1 : Int32) (x2 : Int32) (x3 : Int32) (x4 : Int32) (s : zS) : zcall zMs skM (d + 1) 164 [.inr (.inr 0), .inl x1, .inl x2, .inl x3, .inl x4] s = bM_M_method_0 (zcall zMs skM d) (zexec skM (zcall zMs skM d) zT_M_method 1 19999) x1 x2 x3 x4 s := bM_M_method_0_e (zcall zMs skM d) (zexec skM (zcall zMs skM d) zT_M_method 1 19999) x1 x2 x3 x4 s
set_option maxRecDepth 100000 in
theorem aM_M_remove (d : Nat) (x1 : Int32) (x2 : Int32) (s : zS) : zcall zMs skM (d + 1) 166 [.inr (.inr 0), .inl x1, .inl x2] s = bM_M_remove_0 (zcall zMs skM d) (zexec skM (zcall zMs skM d) zT_M_remove 1 19999) x1 x2 s := bM_M_remove_0_e (zcall zMs skM d) (zexec skM (zcall zMs skM d) zT_M_remove 1 19999) x1 x2 s
set_option maxRecDepth 100000 in
theorem aM_M_drops (d : Nat) (x1 : Int32) (x2 : Int32) (s : zS) : zcall zMs skM (d + 1) 165 [.inr (.inr 0), .inl x1, .inl x2] s = bM_M_drops_0 (zcall zMs skM d) (zexec skM (zcall zMs skM d) zT_M_drops 0 19999) x1 x2 s := bM_M_drops_0_e (zcall zMs skM d) (zexec skM (zcall zMs skM d) zT_M_drops 0 19999) x1 x2 s
set_option maxRecDepth 100000 in
theorem aM_M_isIn (d : Nat) (x0 : Int32) (x1 : Int32) (s : zS) : zcall zMs skM (d + 1) 131 [.inl x0, .inl x1] s = bM_M_isIn_0 (zcall zMs skM d) (zexec skM (zcall zMs skM d) zT_M_isIn 3 19999) x0 x1 s := bM_M_isIn_0_e (zcall zMs skM d) (zexec skM (zcall zMs skM d) zT_M_isIn 3 19999) x0 x1 s
set_option maxRecDepth 100000 in
theorem aM_M_objectOf (d : Nat) (x1 : Int32) (x2 : Int32) (s : zS) : zcall zMs skM (d + 1) 171 [.inr (.inr 0), .inl x1, .inl x2] s = bM_M_objectOf_0 (zcall zMs skM d) (zexec skM (zcall zMs skM d) zT_M_objectOf 1 19999) x1 x2 s := bM_M_objectOf_0_e (zcall zMs skM d) (zexec skM (zcall zMs skM d) zT_M_objectOf 1 19999) x1 x2 s
set_option maxRecDepth 100000 in
theorem aM_M_allFound (d : Nat) (x1 : Int32) (s : zS) : zcall zMs skM (d + 1) 170 [.inr (.inr 0), .inl x1] s = bM_M_allFound_0 (zcall zMs skM d) (zexec skM (zcall zMs skM d) zT_M_allFound 1 19999) x1 s := bM_M_allFound_0_e (zcall zMs skM d) (zexec skM (zcall zMs skM d) zT_M_allFound 1 19999) x1 s
set_option maxRecDepth 100000 in
theorem hM_M_allFound_4 (C : Nat → List zV → zS → zR) (n : Nat) (x1 : Int32) (x2 : Int32) (x3 : Int32) (s : zS) : zexec skM C zT_M_allFound 1 (n + 1) 4 [some (.inr (.inr 0)), some (.inl x1), some (.inl x2), some (.inl x3)] [] s = bM_M_allFound_4 C (zexec skM C zT_M_allFound 1 n) x1 x2 x3 s := bM_M_allFound_4_e C (zexec skM C zT_M_allFound 1 n) x1 x2 x3 s
set_option maxRecDepth 100000 in
theorem aM_M_family (d : Nat) (x1 : Int32) (s : zS) : zcall zMs skM (d + 1) 169 [.inr (.inr 0), .inl x1] s = bM_M_family_0 (zcall zMs skM d) (zexec skM (zcall zMs skM d) zT_M_family 1 19999) x1 s := bM_M_family_0_e (zcall zMs skM d) (zexec skM (zcall zMs skM d) zT_M_family 1 19999) x1 s
set_option maxRecDepth 100000 in
theorem hM_M_family_4 (C : Nat → List zV → zS → zR) (n : Nat) (x1 : Int32) (x2 : Int32) (x3 : Int32) (s : zS) : zexec skM C zT_M_family 1 (n + 1) 4 [some (.inr (.inr 0)), some (.inl x1), some (.inl x2), some (.inl x3)] [] s = bM_M_family_4 C (zexec skM C zT_M_family 1 n) x1 x2 x3 s := bM_M_family_4_e C (zexec skM C zT_M_family 1 n) x1 x2 x3 s
set_option maxRecDepth 100000 in
theorem aM_M_place (d : Nat) (x1 : Int32) (x2 : Int32) (s : zS) : zcall zMs skM (d + 1) 167 [.inr (.inr 0), .inl x1, .inl x2] s = bM_M_place_0 (zcall zMs skM d) (zexec skM (zcall zMs skM d) zT_M_place 1 19999) x1 x2 s := bM_M_place_0_e (zcall zMs skM d) (zexec skM (zcall zMs skM d) zT_M_place 1 19999) x1 x2 s
set_option maxRecDepth 100000 in
theorem hM_M_place_2 (C : Nat → List zV → zS → zR) (n : Nat) (x1 : Int32) (x2 : Int32) (x3 : Int32) (s : zS) : zexec skM C zT_M_place 1 (n + 1) 2 [some (.inr (.inr 0)), some (.inl x1), some (.inl x2), some (.inl x3)] [] s = bM_M_place_2 C (zexec skM C zT_M_place 1 n) x1 x2 x3 s := bM_M_place_2_e C (zexec skM C zT_M_place 1 n) x1 x2 x3 s
set_option maxRecDepth 100000 in
theorem aM_M_order (d : Nat) (x1 : Int32) (x2 : Int32) (s : zS) : zcall zMs skM (d + 1) 172 [.inr (.inr 0), .inl x1, .inl x2] s = bM_M_order_0 (zcall zMs skM d) (zexec skM (zcall zMs skM d) zT_M_order 1 19999) x1 x2 s := bM_M_order_0_e (zcall zMs skM d) (zexec skM (zcall zMs skM d) zT_M_order 1 19999) x1 x2 s
set_option maxRecDepth 100000 in
theorem aM_M_distance (d : Nat) (x1 : Int32) (x2 : Int32) (s : zS) : zcall zMs skM (d + 1) 173 [.inr (.inr 0), .inl x1, .inl x2] s = bM_M_distance_0 (zcall zMs skM d) (zexec skM (zcall zMs skM d) zT_M_distance 1 19999) x1 x2 s := bM_M_distance_0_e (zcall zMs skM d) (zexec skM (zcall zMs skM d) zT_M_distance 1 19999) x1 x2 s
set_option maxRecDepth 100000 in
theorem aM_M_where (d : Nat) (x1 : Int32) (x2 : Int32) (s : zS) : zcall zMs skM (d + 1) 174 [.inr (.inr 0), .inl x1, .inl x2] s = bM_M_where_0 (zcall zMs skM d) (zexec skM (zcall zMs skM d) zT_M_where 1 19999) x1 x2 s := bM_M_where_0_e (zcall zMs skM d) (zexec skM (zcall zMs skM d) zT_M_where 1 19999) x1 x2 s
set_option maxRecDepth 100000 in
theorem aM_M_found (d : Nat) (x1 : Int32) (x2 : Int32) (x3 : Int32) (s : zS) : zcall zMs skM (d + 1) 168 [.inr (.inr 0), .inl x1, .inl x2, .inl x3] s = bM_M_found_0 (zcall zMs skM d) (zexec skM (zcall zMs skM d) zT_M_found 1 19999) x1 x2 x3 s := bM_M_found_0_e (zcall zMs skM d) (zexec skM (zcall zMs skM d) zT_M_found 1 19999) x1 x2 x3 s
set_option maxRecDepth 100000 in
theorem hM_M_found_2 (C : Nat → List zV → zS → zR) (n : Nat) (x1 : Int32) (x2 : Int32) (x4 : Int32) (s : zS) : zexec skM C zT_M_found 1 (n + 1) 2 [some (.inr (.inr 0)), some (.inl x1), some (.inl x2), none, some (.inl x4)] [] s = bM_M_found_2 C (zexec skM C zT_M_found 1 n) x1 x2 x4 s := bM_M_found_2_e C (zexec skM C zT_M_found 1 n) x1 x2 x4 s
set_option maxRecDepth 100000 in
theorem aM_M_hidden (d : Nat) (x1 : Int32) (x2 : Int32) (s : zS) : zcall zMs skM (d + 1) 175 [.inr (.inr 0), .inl x1, .inl x2] s = bM_M_hidden_0 (zcall zMs skM d) (zexec skM (zcall zMs skM d) zT_M_hidden 1 19999) x1 x2 s := bM_M_hidden_0_e (zcall zMs skM d) (zexec skM (zcall zMs skM d) zT_M_hidden 1 19999) x1 x2 s
set_option maxRecDepth 100000 in
theorem hM_M_hidden_31 (C : Nat → List zV → zS → zR) (n : Nat) (x1 : Int32) (x3 : Int32) (x4 : Int32) (x5 : Int32) (s : zS) : zexec skM C zT_M_hidden 1 (n + 1) 31 [some (.inr (.inr 0)), some (.inl x1), none, some (.inl x3), some (.inl x4), some (.inl x5)] [] s = bM_M_hidden_31 C (zexec skM C zT_M_hidden 1 n) x1 x3 x4 x5 s := bM_M_hidden_31_e C (zexec skM C zT_M_hidden 1 n) x1 x3 x4 x5 s
set_option maxRecDepth 100000 in
theorem aM_M_slotOf (d : Nat) (x1 : Int32) (x2 : Int32) (x3 : Int32) (s : zS) : zcall zMs skM (d + 1) 176 [.inr (.inr 0), .inl x1, .inl x2, .inl x3] s = bM_M_slotOf_0 (zcall zMs skM d) (zexec skM (zcall zMs skM d) zT_M_slotOf 1 19999) x1 x2 x3 s := bM_M_slotOf_0_e (zcall zMs skM d) (zexec skM (zcall zMs skM d) zT_M_slotOf 1 19999) x1 x2 x3 s
set_option maxRecDepth 100000 in
theorem aM_M_send (d : Nat) (x1 : Int32) (x2 : Int32) (x3 : Int32) (s : zS) : zcall zMs skM (d + 1) 189 [.inr (.inr 0), .inl x1, .inl x2, .inl x3] s = bM_M_send_0 (zcall zMs skM d) (zexec skM (zcall zMs skM d) zT_M_send 1 19999) x1 x2 x3 s := bM_M_send_0_e (zcall zMs skM d) (zexec skM (zcall zMs skM d) zT_M_send 1 19999) x1 x2 x3 s
set_option maxRecDepth 100000 in
theorem aM_M_begins (d : Nat) (x1 : Int32) (s : zS) : zcall zMs skM (d + 1) 187 [.inr (.inr 0), .inl x1] s = bM_M_begins_0 (zcall zMs skM d) (zexec skM (zcall zMs skM d) zT_M_begins 0 19999) x1 s := bM_M_begins_0_e (zcall zMs skM d) (zexec skM (zcall zMs skM d) zT_M_begins 0 19999) x1 s
set_option maxRecDepth 100000 in
theorem aM_M_keepSlots (d : Nat) (s : zS) : zcall zMs skM (d + 1) 209 [.inr (.inr 0), .inr (.inr 25)] s = bM_M_keepSlots_0 (zcall zMs skM d) (zexec skM (zcall zMs skM d) zT_M_keepSlots 0 19999) s := bM_M_keepSlots_0_e (zcall zMs skM d) (zexec skM (zcall zMs skM d) zT_M_keepSlots 0 19999) s
set_option maxRecDepth 100000 in
theorem hM_M_keepSlots_2 (C : Nat → List zV → zS → zR) (n : Nat) (x2 : Int32) (s : zS) : zexec skM C zT_M_keepSlots 0 (n + 1) 2 [some (.inr (.inr 0)), some (.inr (.inr 25)), some (.inl x2)] [] s = bM_M_keepSlots_2 C (zexec skM C zT_M_keepSlots 0 n) x2 s := bM_M_keepSlots_2_e C (zexec skM C zT_M_keepSlots 0 n) x2 s
set_option maxRecDepth 100000 in
theorem hM_M_keepSlots_25 (C : Nat → List zV → zS → zR) (n : Nat) (x2 : Int32) (s : zS) : zexec skM C zT_M_keepSlots 0 (n + 1) 25 [some (.inr (.inr 0)), some (.inr (.inr 25)), some (.inl x2)] [] s = bM_M_keepSlots_25 C (zexec skM C zT_M_keepSlots 0 n) x2 s := bM_M_keepSlots_25_e C (zexec skM C zT_M_keepSlots 0 n) x2 s
set_option maxRecDepth 100000 in
theorem aM_M_done (d : Nat) (x1 : Int32) (s : zS) : zcall zMs skM (d + 1) 188 [.inr (.inr 0), .inl x1] s = bM_M_done_0 (zcall zMs skM d) (zexec skM (zcall zMs skM d) zT_M_done 1 19999) x1 s := bM_M_done_0_e (zcall zMs skM d) (zexec skM (zcall zMs skM d) zT_M_done 1 19999) x1 s
set_option maxRecDepth 100000 in
theorem aM_M_slotsAgain (d : Nat) (s : zS) : zcall zMs skM (d + 1) 210 [.inr (.inr 0), .inr (.inr 25)] s = bM_M_slotsAgain_0 (zcall zMs skM d) (zexec skM (zcall zMs skM d) zT_M_slotsAgain 0 19999) s := bM_M_slotsAgain_0_e (zcall zMs skM d) (zexec skM (zcall zMs skM d) zT_M_slotsAgain 0 19999) s
set_option maxRecDepth 100000 in
theorem hM_M_slotsAgain_2 (C : Nat → List zV → zS → zR) (n : Nat) (x2 : Int32) (s : zS) : zexec skM C zT_M_slotsAgain 0 (n + 1) 2 [some (.inr (.inr 0)), some (.inr (.inr 25)), some (.inl x2)] [] s = bM_M_slotsAgain_2 C (zexec skM C zT_M_slotsAgain 0 n) x2 s := bM_M_slotsAgain_2_e C (zexec skM C zT_M_slotsAgain 0 n) x2 s
set_option maxRecDepth 100000 in
theorem hM_M_slotsAgain_25 (C : Nat → List zV → zS → zR) (n : Nat) (x2 : Int32) (s : zS) : zexec skM C zT_M_slotsAgain 0 (n + 1) 25 [some (.inr (.inr 0)), some (.inr (.inr 25)), some (.inl x2)] [] s = bM_M_slotsAgain_25 C (zexec skM C zT_M_slotsAgain 0 n) x2 s := bM_M_slotsAgain_25_e C (zexec skM C zT_M_slotsAgain 0 n) x2 s
set_option maxRecDepth 100000 in
theorem aM_M_sends (d : Nat) (x1 : Int32) (x2 : Int32) (s : zS) : zcall zMs skM (d + 1) 179 [.inr (.inr 0), .inl x1, .inl x2] s = bM_M_sends_0 (zcall zMs skM d) (zexec skM (zcall zMs skM d) zT_M_sends 1 19999) x1 x2 s := bM_M_sends_0_e (zcall zMs skM d) (zexec skM (zcall zMs skM d) zT_M_sends 1 19999) x1 x2 s
set_option maxRecDepth 100000 in
theorem aM_M_gives (d : Nat) (x1 : Int32) (x2 : Int32) (x3 : Int32) (s : zS) : zcall zMs skM (d + 1) 180 [.inr (.inr 0), .inl x1, .inl x2, .inl x3] s = bM_M_gives_0 (zcall zMs skM d) (zexec skM (zcall zMs skM d) zT_M_gives 1 19999) x1 x2 x3 s := bM_M_gives_0_e (zcall zMs skM d) (zexec skM (zcall zMs skM d) zT_M_gives 1 19999) x1 x2 x3 s
set_option maxRecDepth 100000 in
theorem aM_M_fails (d : Nat) (s : zS) : zcall zMs skM (d + 1) 177 [.inr (.inr 0)] s = bM_M_fails_0 (zcall zMs skM d) (zexec skM (zcall zMs skM d) zT_M_fails 1 19999) s := bM_M_fails_0_e (zcall zMs skM d) (zexec skM (zcall zMs skM d) zT_M_fails 1 19999) s
set_option maxRecDepth 100000 in
theorem aM_M_runs (d : Nat) (x1 : Int32) (x2 : Int32) (x3 : Int32) (x4 : Int32) (x5 : Int32) (x6 : Int32) (s : zS) : zcall zMs skM (d + 1) 183 [.inr (.inr 0), .inl x1, .inl x2, .inl x3, .inl x4, .inl x5, .inl x6] s = bM_M_runs_0 (zcall zMs skM d) (zexec skM (zcall zMs skM d) zT_M_runs 1 19999) x1 x2 x3 x4 x5 x6 s := bM_M_runs_0_e (zcall zMs skM d) (zexec skM (zcall zMs skM d) zT_M_runs 1 19999) x1 x2 x3 x4 x5 x6 s
set_option maxRecDepth 100000 in
theorem aM_M_next2 (d : Nat) (x1 : Int32) (x2 : Int32) (x3 : Int32) (x4 : Int32) (s : zS) : zcall zMs skM (d + 1) 181 [.inr (.inr 0), .inl x1, .inl x2, .inl x3, .inl x4] s = bM_M_next2_0 (zcall zMs skM d) (zexec skM (zcall zMs skM d) zT_M_next2 1 19999) x1 x2 x3 x4 s := bM_M_next2_0_e (zcall zMs skM d) (zexec skM (zcall zMs skM d) zT_M_next2 1 19999) x1 x2 x3 x4 s
set_option maxRecDepth 100000 in
theorem aM_M_core (d : Nat) (x1 : Int32) (s : zS) : zcall zMs skM (d + 1) 186 [.inr (.inr 0), .inl x1] s = bM_M_core_0 (zcall zMs skM d) (zexec skM (zcall zMs skM d) zT_M_core 1 19999) x1 s := bM_M_core_0_e (zcall zMs skM d) (zexec skM (zcall zMs skM d) zT_M_core 1 19999) x1 s
set_option maxRecDepth 100000 in
theorem hM_M_core_10 (C : Nat → List zV → zS → zR) (n : Nat) (x1 : Int32) (x2 : Int32) (s : zS) : zexec skM C zT_M_core 1 (n + 1) 10 [some (.inr (.inr 0)), some (.inl x1), some (.inl x2), none] [] s = bM_M_core_10 C (zexec skM C zT_M_core 1 n) x1 x2 s := bM_M_core_10_e C (zexec skM C zT_M_core 1 n) x1 x2 s
set_option maxRecDepth 100000 in
theorem hM_M_core_47 (C : Nat → List zV → zS → zR) (n : Nat) (x2 : Int32) (x3 : Int32) (s : zS) : zexec skM C zT_M_core 1 (n + 1) 47 [some (.inr (.inr 0)), none, some (.inl x2), some (.inl x3)] [] s = bM_M_core_47 C (zexec skM C zT_M_core 1 n) x2 x3 s := bM_M_core_47_e C (zexec skM C zT_M_core 1 n) x2 x3 s
set_option maxRecDepth 100000 in
theorem aM_M_goes (d : Nat) (x1 : Int32) (x2 : Int32) (x3 : Int32) (x4 : Int32) (s : zS) : zcall zMs skM (d + 1) 185 [.inr (.inr 0), .inl x1, .inl x2, .inl x3, .inl x4] s = bM_M_goes_0 (zcall zMs skM d) (zexec skM (zcall zMs skM d) zT_M_goes 1 19999) x1 x2 x3 x4 s := bM_M_goes_0_e (zcall zMs skM d) (zexec skM (zcall zMs skM d) zT_M_goes 1 19999) x1 x2 x3 x4 s
set_option maxRecDepth 100000 in
theorem aM_M_way (d : Nat) (x1 : Int32) (x2 : Int32) (s : zS) : zcall zMs skM (d + 1) 184 [.inr (.inr 0), .inl x1, .inl x2] s = bM_M_way_0 (zcall zMs skM d) (zexec skM (zcall zMs skM d) zT_M_way 1 19999) x1 x2 s := bM_M_way_0_e (zcall zMs skM d) (zexec skM (zcall zMs skM d) zT_M_way 1 19999) x1 x2 s
set_option maxRecDepth 100000 in
theorem aM_M_sets (d : Nat) (x1 : Int32) (x2 : Int32) (s : zS) : zcall zMs skM (d + 1) 182 [.inr (.inr 0), .inl x1, .inl x2] s = bM_M_sets_0 (zcall zMs skM d) (zexec skM (zcall zMs skM d) zT_M_sets 1 19999) x1 x2 s := bM_M_sets_0_e (zcall zMs skM d) (zexec skM (zcall zMs skM d) zT_M_sets 1 19999) x1 x2 s
set_option maxRecDepth 100000 in
theorem aM_M_slotOf2 (d : Nat) (x0 : Int32) (s : zS) : zcall zMs skM (d + 1) 178 [.inl x0] s = bM_M_slotOf2_0 (zcall zMs skM d) (zexec skM (zcall zMs skM d) zT_M_slotOf2 1 19999) x0 s := bM_M_slotOf2_0_e (zcall zMs skM d) (zexec skM (zcall zMs skM d) zT_M_slotOf2 1 19999) x0 s
set_option maxRecDepth 100000 in
theorem aM_M_given (d : Nat) (s : zS) : zcall zMs skM (d + 1) 190 [.inr (.inr 0)] s = bM_M_given_0 (zcall zMs skM d) (zexec skM (zcall zMs skM d) zT_M_given 1 19999) s := bM_M_given_0_e (zcall zMs skM d) (zexec skM (zcall zMs skM d) zT_M_given 1 19999) s
set_option maxRecDepth 100000 in
theorem aM_M_trial (d : Nat) (x1 : Int32) (x2 : Int32) (x3 : Int32) (x4 : Int32) (s : zS) : zcall zMs skM (d + 1) 192 [.inr (.inr 0), .inl x1, .inl x2, .inl x3, .inl x4] s = bM_M_trial_0 (zcall zMs skM d) (zexec skM (zcall zMs skM d) zT_M_trial 1 19999) x1 x2 x3 x4 s := bM_M_trial_0_e (zcall zMs skM d) (zexec skM (zcall zMs skM d) zT_M_trial 1 19999) x1 x2 x3 x4 s
set_option maxRecDepth 100000 in
theorem aM_M_tries (d : Nat) (x1 : Int32) (x2 : Int32) (x3 : Int32) (s : zS) : zcall zMs skM (d + 1) 191 [.inr (.inr 0), .inl x1, .inl x2, .inl x3] s = bM_M_tries_0 (zcall zMs skM d) (zexec skM (zcall zMs skM d) zT_M_tries 1 19999) x1 x2 x3 s := bM_M_tries_0_e (zcall zMs skM d) (zexec skM (zcall zMs skM d) zT_M_tries 1 19999) x1 x2 x3 s
set_option maxRecDepth 100000 in
theorem aM_M_way2 (d : Nat) (x1 : Int32) (x2 : Int32) (x3 : Int32) (x4 : Int32) (x5 : Int32) (x6 : Int32) (s : zS) : zcall zMs skM (d + 1) 194 [.inr (.inr 0), .inl x1, .inl x2, .inl x3, .inl x4, .inl x5, .inl x6] s = bM_M_way2_0 (zcall zMs skM d) (zexec skM (zcall zMs skM d) zT_M_way2 1 19999) x1 x2 x3 x4 x5 x6 s := bM_M_way2_0_e (zcall zMs skM d) (zexec skM (zcall zMs skM d) zT_M_way2 1 19999) x1 x2 x3 x4 x5 x6 s
set_option maxRecDepth 100000 in
theorem aM_M_isGeneric (d : Nat) (x0 : Int32) (s : zS) : zcall zMs skM (d + 1) 193 [.inl x0] s = bM_M_isGeneric_0 (zcall zMs skM d) (zexec skM (zcall zMs skM d) zT_M_isGeneric 3 19999) x0 s := bM_M_isGeneric_0_e (zcall zMs skM d) (zexec skM (zcall zMs skM d) zT_M_isGeneric 3 19999) x0 s
set_option maxRecDepth 100000 in
theorem aM_M_wayOf (d : Nat) (x1 : Int32) (x2 : Int32) (s : zS) : zcall zMs skM (d + 1) 195 [.inr (.inr 0), .inl x1, .inl x2] s = bM_M_wayOf_0 (zcall zMs skM d) (zexec skM (zcall zMs skM d) zT_M_wayOf 1 19999) x1 x2 s := bM_M_wayOf_0_e (zcall zMs skM d) (zexec skM (zcall zMs skM d) zT_M_wayOf 1 19999) x1 x2 s
set_option maxRecDepth 100000 in
theorem aM_M_applies (d : Nat) (x1 : Int32) (x2 : Int32) (x3 : Int32) (x4 : Int32) (x5 : Int32) (s : zS) : zcall zMs skM (d + 1) 199 [.inr (.inr 0), .inl x1, .inl x2, .inl x3, .inl x4, .inl x5] s = bM_M_applies_0 (zcall zMs skM d) (zexec skM (zcall zMs skM d) zT_M_applies 1 19999) x1 x2 x3 x4 x5 s := bM_M_applies_0_e (zcall zMs skM d) (zexec skM (zcall zMs skM d) zT_M_applies 1 19999) x1 x2 x3 x4 x5 s
set_option maxRecDepth 100000 in
theorem aM_M_stands (d : Nat) (x1 : Int32) (x2 : Int32) (x3 : Int32) (s : zS) : zcall zMs skM (d + 1) 198 [.inr (.inr 0), .inl x1, .inl x2, .inl x3] s = bM_M_stands_0 (zcall zMs skM d) (zexec skM (zcall zMs skM d) zT_M_stands 0 19999) x1 x2 x3 s := bM_M_stands_0_e (zcall zMs skM d) (zexec skM (zcall zMs skM d) zT_M_stands 0 19999) x1 x2 x3 s
set_option maxRecDepth 100000 in
theorem hM_M_stands_2 (C : Nat → List zV → zS → zR) (n : Nat) (x1 : Int32) (x2 : Int32) (x3 : Int32) (x4 : Int32) (s : zS) : zexec skM C zT_M_stands 0 (n + 1) 2 [some (.inr (.inr 0)), some (.inl x1), some (.inl x2), some (.inl x3), some (.inl x4), none, none] [] s = bM_M_stands_2 C (zexec skM C zT_M_stands 0 n) x1 x2 x3 x4 s := bM_M_stands_2_e C (zexec skM C zT_M_stands 0 n) x1 x2 x3 x4 s
set_option maxRecDepth 100000 in
theorem hM_M_stands_14 (C : Nat → List zV → zS → zR) (n : Nat) (x1 : Int32) (x2 : Int32) (x3 : Int32) (x4 : Int32) (s : zS) : zexec skM C zT_M_stands 0 (n + 1) 14 [some (.inr (.inr 0)), some (.inl x1), some (.inl x2), some (.inl x3), some (.inl x4), none, none] [] s = bM_M_stands_14 C (zexec skM C zT_M_stands 0 n) x1 x2 x3 x4 s := bM_M_stands_14_e C (zexec skM C zT_M_stands 0 n) x1 x2 x3 x4 s
set_option maxRecDepth 100000 in
theorem hM_M_stands_53 (C : Nat → List zV → zS → zR) (n : Nat) (x1 : Int32) (x2 : Int32) (x3 : Int32) (x4 : Int32) (x5 : Int32) (x6 : Int32) (s : zS) : zexec skM C zT_M_stands 0 (n + 1) 53 [some (.inr (.inr 0)), some (.inl x1), some (.inl x2), some (.inl x3), some (.inl x4), some (.inl x5), some (.inl x6)] [] s = bM_M_stands_53 C (zexec skM C zT_M_stands 0 n) x1 x2 x3 x4 x5 x6 s := bM_M_stands_53_e C (zexec skM C zT_M_stands 0 n) x1 x2 x3 x4 x5 x6 s
set_option maxRecDepth 100000 in
theorem aM_M_isAhead (d : Nat) (x1 : Int32) (x2 : Int32) (x3 : Int32) (x4 : Int32) (s : zS) : zcall zMs skM (d + 1) 197 [.inr (.inr 0), .inl x1, .inl x2, .inl x3, .inl x4] s = bM_M_isAhead_0 (zcall zMs skM d) (zexec skM (zcall zMs skM d) zT_M_isAhead 3 19999) x1 x2 x3 x4 s := bM_M_isAhead_0_e (zcall zMs skM d) (zexec skM (zcall zMs skM d) zT_M_isAhead 3 19999) x1 x2 x3 x4 s
set_option maxRecDepth 100000 in
theorem aM_M_far (d : Nat) (x1 : Int32) (x2 : Int32) (x3 : Int32) (s : zS) : zcall zMs skM (d + 1) 196 [.inr (.inr 0), .inl x1, .inl x2, .inl x3] s = bM_M_far_0 (zcall zMs skM d) (zexec skM (zcall zMs skM d) zT_M_far 1 19999) x1 x2 x3 s := bM_M_far_0_e (zcall zMs skM d) (zexec skM (zcall zMs skM d) zT_M_far 1 19999) x1 x2 x3 s
set_option maxRecDepth 100000 in
theorem aM_M_tie (d : Nat) (x1 : Int32) (x2 : Int32) (x3 : Int32) (s : zS) : zcall zMs skM (d + 1) 200 [.inr (.inr 0), .inl x1, .inl x2, .inl x3] s = bM_M_tie_0 (zcall zMs skM d) (zexec skM (zcall zMs skM d) zT_M_tie 1 19999) x1 x2 x3 s := bM_M_tie_0_e (zcall zMs skM d) (zexec skM (zcall zMs skM d) zT_M_tie 1 19999) x1 x2 x3 s
set_option maxRecDepth 100000 in
theorem aM_M_call (d : Nat) (x1 : Int32) (x2 : Int32) (x3 : Int32) (x4 : Int32) (s : zS) : zcall zMs skM (d + 1) 201 [.inr (.inr 0), .inl x1, .inl x2, .inl x3, .inl x4] s = bM_M_call_0 (zcall zMs skM d) (zexec skM (zcall zMs skM d) zT_M_call 1 19999) x1 x2 x3 x4 s := bM_M_call_0_e (zcall zMs skM d) (zexec skM (zcall zMs skM d) zT_M_call 1 19999) x1 x2 x3 x4 s
set_option maxRecDepth 100000 in
theorem hM_M_call_46 (C : Nat → List zV → zS → zR) (n : Nat) (x5 : Int32) (s : zS) : zexec skM C zT_M_call 1 (n + 1) 46 [some (.inr (.inr 0)), none, none, none, none, some (.inl x5)] [] s = bM_M_call_46 C (zexec skM C zT_M_call 1 n) x5 s := bM_M_call_46_e C (zexec skM C zT_M_call 1 n) x5 s
set_option maxRecDepth 100000 in
theorem aM_M_trace (d : Nat) (x1 : Int32) (s : zS) : zcall zMs skM (d + 1) 202 [.inr (.inr 0), .inl x1] s = bM_M_trace_0 (zcall zMs skM d) (zexec skM (zcall zMs skM d) zT_M_trace 1 19999) x1 s := bM_M_trace_0_e (zcall zMs skM d) (zexec skM (zcall zMs skM d) zT_M_trace 1 19999) x1 s
set_option maxRecDepth 100000 in
theorem aM_J_min (d : Nat) (x0 : Int32) (x1 : Int32) (s : zS) : zcall zMs skM (d + 1) 217 [.inl x0, .inl x1] s = bM_J_min_0 (zcall zMs skM d) (zexec skM (zcall zMs skM d) zT_J_min 1 19999) x0 x1 s := bM_J_min_0_e (zcall zMs skM d) (zexec skM (zcall zMs skM d) zT_J_min 1 19999) x0 x1 s
set_option maxRecDepth 100000 in
theorem aM_M_judge (d : Nat) (x1 : Int32) (x2 : Int32) (x3 : Int32) (x4 : Int32) (s : zS) : zcall zMs skM (d + 1) 204 [.inr (.inr 0), .inl x1, .inl x2, .inl x3, .inl x4] s = bM_M_judge_0 (zcall zMs skM d) (zexec skM (zcall zMs skM d) zT_M_judge 1 19999) x1 x2 x3 x4 s := bM_M_judge_0_e (zcall zMs skM d) (zexec skM (zcall zMs skM d) zT_M_judge 1 19999) x1 x2 x3 x4 s
set_option maxRecDepth 100000 in
theorem hM_M_judge_50 (C : Nat → List zV → zS → zR) (n : Nat) (x1 : Int32) (x2 : Int32) (x3 : Int32) (x4 : Int32) (x6 : Int32) (s : zS) : zexec skM C zT_M_judge 1 (n + 1) 50 [some (.inr (.inr 0)), some (.inl x1), some (.inl x2), some (.inl x3), some (.inl x4), none, some (.inl x6)] [] s = bM_M_judge_50 C (zexec skM C zT_M_judge 1 n) x1 x2 x3 x4 x6 s := bM_M_judge_50_e C (zexec skM C zT_M_judge 1 n) x1 x2 x3 x4 x6 s
set_option maxRecDepth 100000 in
theorem aM_M_read2 (d : Nat) (x1 : Int32) (x2 : Int32) (s : zS) : zcall zMs skM (d + 1) 203 [.inr (.inr 0), .inl x1, .inl x2] s = bM_M_read2_0 (zcall zMs skM d) (zexec skM (zcall zMs skM d) zT_M_read2 1 19999) x1 x2 s := bM_M_read2_0_e (zcall zMs skM d) (zexec skM (zcall zMs skM d) zT_M_read2 1 19999) x1 x2 s
set_option maxRecDepth 100000 in
theorem aM_M_days (d : Nat) (x1 : Int32) (s : zS) : zcall zMs skM (d + 1) 207 [.inr (.inr 0), .inl x1] s = bM_M_days_0 (zcall zMs skM d) (zexec skM (zcall zMs skM d) zT_M_days 1 19999) x1 s := bM_M_days_0_e (zcall zMs skM d) (zexec skM (zcall zMs skM d) zT_M_days 1 19999) x1 s
set_option maxRecDepth 100000 in
theorem hM_M_days_21 (C : Nat → List zV → zS → zR) (n : Nat) (x1 : Int32) (x2 : Int32) (s : zS) : zexec skM C zT_M_days 1 (n + 1) 21 [some (.inr (.inr 0)), some (.inl x1), some (.inl x2), none, none, none] [] s = bM_M_days_21 C (zexec skM C zT_M_days 1 n) x1 x2 s := bM_M_days_21_e C (zexec skM C zT_M_days 1 n) x1 x2 s
set_option maxRecDepth 100000 in
theorem aM_M_allSlots (d : Nat) (s : zS) : zcall zMs skM (d + 1) 206 [.inr (.inr 0)] s = bM_M_allSlots_0 (zcall zMs skM d) (zexec skM (zcall zMs skM d) zT_M_allSlots 1 19999) s := bM_M_allSlots_0_e (zcall zMs skM d) (zexec skM (zcall zMs skM d) zT_M_allSlots 1 19999) s
set_option maxRecDepth 100000 in
theorem hM_M_allSlots_4 (C : Nat → List zV → zS → zR) (n : Nat) (x1 : Int32) (x2 : Int32) (s : zS) : zexec skM C zT_M_allSlots 1 (n + 1) 4 [some (.inr (.inr 0)), some (.inl x1), some (.inl x2)] [] s = bM_M_allSlots_4 C (zexec skM C zT_M_allSlots 1 n) x1 x2 s := bM_M_allSlots_4_e C (zexec skM C zT_M_allSlots 1 n) x1 x2 s
set_option maxRecDepth 100000 in
theorem aM_M_draw (d : Nat) (x1 : Int32) (s : zS) : zcall zMs skM (d + 1) 205 [.inr (.inr 0), .inl x1] s = bM_M_draw_0 (zcall zMs skM d) (zexec skM (zcall zMs skM d) zT_M_draw 1 19999) x1 s := bM_M_draw_0_e (zcall zMs skM d) (zexec skM (zcall zMs skM d) zT_M_draw 1 19999) x1 s
set_option maxRecDepth 100000 in
theorem aM_M_seed (d : Nat) (x1 : Int32) (s : zS) : zcall zMs skM (d + 1) 208 [.inr (.inr 0), .inl x1] s = bM_M_seed_0 (zcall zMs skM d) (zexec skM (zcall zMs skM d) zT_M_seed 1 19999) x1 s := bM_M_seed_0_e (zcall zMs skM d) (zexec skM (zcall zMs skM d) zT_M_seed 1 19999) x1 s
set_option maxRecDepth 100000 in
theorem aM_M_image (d : Nat) (s : zS) : zcall zMs skM (d + 1) 211 [.inr (.inr 0)] s = bM_M_image_0 (zcall zMs skM d) (zexec skM (zcall zMs skM d) zT_M_image 1 19999) s := bM_M_image_0_e (zcall zMs skM d) (zexec skM (zcall zMs skM d) zT_M_image 1 19999) s
set_option maxRecDepth 100000 in
theorem hM_M_image_9 (C : Nat → List zV → zS → zR) (n : Nat) (x1 : Int32) (s : zS) : zexec skM C zT_M_image 1 (n + 1) 9 [some (.inr (.inr 0)), some (.inl x1)] [] s = bM_M_image_9 C (zexec skM C zT_M_image 1 n) x1 s := bM_M_image_9_e C (zexec skM C zT_M_image 1 n) x1 s
set_option maxRecDepth 100000 in
theorem hM_M_image_46 (C : Nat → List zV → zS → zR) (n : Nat) (x1 : Int32) (s : zS) : zexec skM C zT_M_image 1 (n + 1) 46 [some (.inr (.inr 0)), some (.inl x1)] [] s = bM_M_image_46 C (zexec skM C zT_M_image 1 n) x1 s := bM_M_image_46_e C (zexec skM C zT_M_image 1 n) x1 s
set_option maxRecDepth 100000 in
theorem hM_M_image_63 (C : Nat → List zV → zS → zR) (n : Nat) (x1 : Int32) (s : zS) : zexec skM C zT_M_image 1 (n + 1) 63 [some (.inr (.inr 0)), some (.inl x1)] [] s = bM_M_image_63 C (zexec skM C zT_M_image 1 n) x1 s := bM_M_image_63_e C (zexec skM C zT_M_image 1 n) x1 s
set_option maxRecDepth 100000 in
theorem hM_M_image_80 (C : Nat → List zV → zS → zR) (n : Nat) (x1 : Int32) (s : zS) : zexec skM C zT_M_image 1 (n + 1) 80 [some (.inr (.inr 0)), some (.inl x1)] [] s = bM_M_image_80 C (zexec skM C zT_M_image 1 n) x1 s := bM_M_image_80_e C (zexec skM C zT_M_image 1 n) x1 s
set_option maxRecDepth 100000 in
theorem aM_M_keepSlots_0_24 (d : Nat) (s : zS) : zcall zMs skM (d + 1) 209 [.inr (.inr 0), .inr (.inr 24)] s = bM_M_keepSlots_0_24_0 (zcall zMs skM d) (zexec skM (zcall zMs skM d) zT_M_keepSlots 0 19999) s := bM_M_keepSlots_0_24_0_e (zcall zMs skM d) (zexec skM (zcall zMs skM d) zT_M_keepSlots 0 19999) s
set_option maxRecDepth 100000 in
theorem hM_M_keepSlots_0_24_2 (C : Nat → List zV → zS → zR) (n : Nat) (x2 : Int32) (s : zS) : zexec skM C zT_M_keepSlots 0 (n + 1) 2 [some (.inr (.inr 0)), some (.inr (.inr 24)), some (.inl x2)] [] s = bM_M_keepSlots_0_24_2 C (zexec skM C zT_M_keepSlots 0 n) x2 s := bM_M_keepSlots_0_24_2_e C (zexec skM C zT_M_keepSlots 0 n) x2 s
set_option maxRecDepth 100000 in
theorem hM_M_keepSlots_0_24_25 (C : Nat → List zV → zS → zR) (n : Nat) (x2 : Int32) (s : zS) : zexec skM C zT_M_keepSlots 0 (n + 1) 25 [some (.inr (.inr 0)), some (.inr (.inr 24)), some (.inl x2)] [] s = bM_M_keepSlots_0_24_25 C (zexec skM C zT_M_keepSlots 0 n) x2 s := bM_M_keepSlots_0_24_25_e C (zexec skM C zT_M_keepSlots 0 n) x2 s
set_option maxRecDepth 100000 in
theorem aM_M_restore (d : Nat) (s : zS) : zcall zMs skM (d + 1) 212 [.inr (.inr 0)] s = bM_M_restore_0 (zcall zMs skM d) (zexec skM (zcall zMs skM d) zT_M_restore 1 19999) s := bM_M_restore_0_e (zcall zMs skM d) (zexec skM (zcall zMs skM d) zT_M_restore 1 19999) s
set_option maxRecDepth 100000 in
theorem hM_M_restore_13 (C : Nat → List zV → zS → zR) (n : Nat) (x1 : Int32) (s : zS) : zexec skM C zT_M_restore 1 (n + 1) 13 [some (.inr (.inr 0)), some (.inl x1)] [] s = bM_M_restore_13 C (zexec skM C zT_M_restore 1 n) x1 s := bM_M_restore_13_e C (zexec skM C zT_M_restore 1 n) x1 s
set_option maxRecDepth 100000 in
theorem hM_M_restore_50 (C : Nat → List zV → zS → zR) (n : Nat) (x1 : Int32) (s : zS) : zexec skM C zT_M_restore 1 (n + 1) 50 [some (.inr (.inr 0)), some (.inl x1)] [] s = bM_M_restore_50 C (zexec skM C zT_M_restore 1 n) x1 s := bM_M_restore_50_e C (zexec skM C zT_M_restore 1 n) x1 s
set_option maxRecDepth 100000 in
theorem hM_M_restore_67 (C : Nat → List zV → zS → zR) (n : Nat) (x1 : Int32) (s : zS) : zexec skM C zT_M_restore 1 (n + 1) 67 [some (.inr (.inr 0)), some (.inl x1)] [] s = bM_M_restore_67 C (zexec skM C zT_M_restore 1 n) x1 s := bM_M_restore_67_e C (zexec skM C zT_M_restore 1 n) x1 s
set_option maxRecDepth 100000 in
theorem hM_M_restore_84 (C : Nat → List zV → zS → zR) (n : Nat) (x1 : Int32) (s : zS) : zexec skM C zT_M_restore 1 (n + 1) 84 [some (.inr (.inr 0)), some (.inl x1)] [] s = bM_M_restore_84 C (zexec skM C zT_M_restore 1 n) x1 s := bM_M_restore_84_e C (zexec skM C zT_M_restore 1 n) x1 s
set_option maxRecDepth 100000 in
theorem hM_M_restore_119 (C : Nat → List zV → zS → zR) (n : Nat) (x1 : Int32) (s : zS) : zexec skM C zT_M_restore 1 (n + 1) 119 [some (.inr (.inr 0)), some (.inl x1)] [] s = bM_M_restore_119 C (zexec skM C zT_M_restore 1 n) x1 s := bM_M_restore_119_e C (zexec skM C zT_M_restore 1 n) x1 s
set_option maxRecDepth 100000 in
theorem aM_M_slotsAgain_0_24 (d : Nat) (s : zS) : zcall zMs skM (d + 1) 210 [.inr (.inr 0), .inr (.inr 24)] s = bM_M_slotsAgain_0_24_0 (zcall zMs skM d) (zexec skM (zcall zMs skM d) zT_M_slotsAgain 0 19999) s := bM_M_slotsAgain_0_24_0_e (zcall zMs skM d) (zexec skM (zcall zMs skM d) zT_M_slotsAgain 0 19999) s
set_option maxRecDepth 100000 in
theorem hM_M_slotsAgain_0_24_2 (C : Nat → List zV → zS → zR) (n : Nat) (x2 : Int32) (s : zS) : zexec skM C zT_M_slotsAgain 0 (n + 1) 2 [some (.inr (.inr 0)), some (.inr (.inr 24)), some (.inl x2)] [] s = bM_M_slotsAgain_0_24_2 C (zexec skM C zT_M_slotsAgain 0 n) x2 s := bM_M_slotsAgain_0_24_2_e C (zexec skM C zT_M_slotsAgain 0 n) x2 s
set_option maxRecDepth 100000 in
theorem hM_M_slotsAgain_0_24_25 (C : Nat → List zV → zS → zR) (n : Nat) (x2 : Int32) (s : zS) : zexec skM C zT_M_slotsAgain 0 (n + 1) 25 [some (.inr (.inr 0)), some (.inr (.inr 24)), some (.inl x2)] [] s = bM_M_slotsAgain_0_24_25 C (zexec skM C zT_M_slotsAgain 0 n) x2 s := bM_M_slotsAgain_0_24_25_e C (zexec skM C zT_M_slotsAgain 0 n) x2 s
set_option maxRecDepth 100000 in
theorem aM_M_status (d : Nat) (x1 : Int32) (s : zS) : zcall zMs skM (d + 1) 214 [.inr (.inr 0), .inl x1] s = bM_M_status_0 (zcall zMs skM d) (zexec skM (zcall zMs skM d) zT_M_status 1 19999) x1 s := bM_M_status_0_e (zcall zMs skM d) (zexec skM (zcall zMs skM d) zT_M_status 1 19999) x1 s
set_option maxRecDepth 100000 in
theorem aM_M_allMethods (d : Nat) (s : zS) : zcall zMs skM (d + 1) 213 [.inr (.inr 0)] s = bM_M_allMethods_0 (zcall zMs skM d) (zexec skM (zcall zMs skM d) zT_M_allMethods 1 19999) s := bM_M_allMethods_0_e (zcall zMs skM d) (zexec skM (zcall zMs skM d) zT_M_allMethods 1 19999) s
set_option maxRecDepth 100000 in
theorem hM_M_allMethods_4 (C : Nat → List zV → zS → zR) (n : Nat) (x1 : Int32) (x2 : Int32) (s : zS) : zexec skM C zT_M_allMethods 1 (n + 1) 4 [some (.inr (.inr 0)), some (.inl x1), some (.inl x2)] [] s = bM_M_allMethods_4 C (zexec skM C zT_M_allMethods 1 n) x1 x2 s := bM_M_allMethods_4_e C (zexec skM C zT_M_allMethods 1 n) x1 x2 s
